section INV
variable {h h' g s : TT} {o k b q : Nat} {B : Nat → Nat → Int32} {P P' Q : Nat → Int32} {L L' : Nat} {w c w' c' : Nat → Int32}
theorem Pb_at (x : Int32) : ∀ n j, Pb P x n j = if 7 ≤ j ∧ j < 7 + 3 * n ∧ j % 3 = 1 then fbV x ((j - 7) / 3) else P j := by
  intro n
  induction n with
  | zero => intro j; rw [if_neg (by omega)]; rfl
  | succ n ih =>
    intro j
    rw [Pb, upd_cases]
    by_cases e : j = 7 + 3 * n
    · rw [if_pos e, if_pos (by omega), show (j - 7) / 3 = n by omega]
    · rw [if_neg e, ih]
      by_cases e2 : 7 ≤ j ∧ j < 7 + 3 * n ∧ j % 3 = 1
      · rw [if_pos e2, if_pos (by omega)]
      · rw [if_neg e2, if_neg (by omega)]
theorem Pb_ov (x y : Int32) (n : Nat) : Pb (Pb P x n) y n = Pb P y n := by
  funext j
  rw [Pb_at]
  by_cases e : 7 ≤ j ∧ j < 7 + 3 * n ∧ j % 3 = 1
  · rw [if_pos e, Pb_at, if_pos e]
  · rw [if_neg e, Pb_at, if_neg e, Pb_at, if_neg e]
theorem sp_2 (C : Nat → Nat) : ∀ t, (spB C t).2 ≤ 61 := by
  intro t
  induction t with
  | zero => exact Nat.le_refl _
  | succ t ih =>
    rw [spB]
    split
    · rename_i h; exact Nat.le_trans (Nat.le_of_lt h) ih
    · exact ih
theorem sp_1 (C : Nat → Nat) : ∀ t, (spB C t).1 ≤ t := by
  intro t
  induction t with
  | zero => exact Nat.le_refl _
  | succ t ih =>
    rw [spB]
    split
    · exact Nat.le_succ t
    · omega
theorem sp_0 {C : Nat → Nat} {t : Nat} (h : (spB C t).2 = 0) : ∀ d, spB C (t + d) = spB C t := by
  intro d
  induction d with
  | zero => rfl
  | succ d ih =>
    rw [show t + (d + 1) = (t + d) + 1 by omega, spB, ih, if_neg (by omega)]
/-- how many fall if the courses are rings and spirals by the bits of t -/
def spC (P : Nat → Int32) (t : Nat) : Nat := FN (Pb P (nI t) (mF P)) (aF P)
theorem Pb_a (hW : WF P) (x : Int32) (n : Nat) : aF (Pb P x n) = aF P := geo_a (Pb_W hW x n).2.1 (Pb_W hW x n).2.2
theorem spC_le (P : Nat → Int32) (hW : WF P) (t : Nat) : spC P t ≤ 60 := by
  have := FN_le (Pb P (nI t) (mF P)) (aF P)
  rw [Pb_a hW] at this
  have := hW.a60
  unfold spC
  omega
theorem c_sp (hW : WF P) {N : Nat} (hN : N ≤ 256) : ∀ (d f t : Nat) (B : Nat → Nat → Int32) (Q : Nat → Int32), RS B Q → WF Q → mF Q = mF P → (∀ x, Pb Q x (mF P) = Pb P x (mF P)) → t + d = N → d < f → ∃ B', f_X7_spiral_45 f (nI (spB (spC P) t).1) (nI (spB (spC P) t).2) (nI N) (nI t) (setB h 110 B) = some (nI (spB (spC P) N).1, wr (setB h 110 B') 0 13 (nI (spB (spC P) N).2)) := by
  intro d
  induction d with
  | zero =>
    intro f t B Q R W1 W2 W3 ht hf
    obtain ⟨f, rfl⟩ : ∃ g, f = g + 1 := ⟨f - 1, by omega⟩
    obtain rfl : t = N := by omega
    refine ⟨B, ?_⟩
    rw [f_X7_spiral_45, if_pos (nI_le (Nat.le_refl _) (by omega))]
    rfl
  | succ d ih =>
    intro f t B Q R W1 W2 W3 ht hf
    obtain ⟨f, rfl⟩ : ∃ g, f = g + 1 := ⟨f - 1, by omega⟩
    have s2 := sp_2 (spC P) t
    rw [f_X7_spiral_45, if_neg (nI_ge (by omega) (by omega))]
    by_cases e0 : (spB (spC P) t).2 = 0
    · have z := sp_0 e0 (d + 1)
      rw [show t + (d + 1) = N from ht] at z
      refine ⟨B, ?_⟩
      rw [if_pos (by rw [e0]; decide), z]
      rfl
    · obtain ⟨B1, e1, R1⟩ := c_bend (h := h) (o := 110) W1 R (nI t)
      rw [W2, W3] at R1
      obtain ⟨V1, V2, V3⟩ := Pb_W hW (nI t) (mF P)
      have va := Pb_a hW (nI t) (mF P)
      have h60 := V1.a60
      obtain ⟨L', B2, k1, R2, D2, k2, k3, -⟩ := c_raise (h := h) (o := 110) V1 (m := (spB (spC P) t).2 - 1) (by omega) R1
      rw [va] at k2 k3
      have fl := FN_le (Pb P (nI t) (mF P)) L'
      have mo := FN_mono V1 (show L' ≤ aF (Pb P (nI t) (mF P)) by rw [va]; exact k2) (Nat.le_refl _)
      rw [va] at mo fl
      have hh := hW.a60
      have mo2 : FN (Pb P (nI t) (mF P)) L' ≤ spC P t := mo
      rw [if_neg (nI_nle (by omega) (by omega)), e1, Option.bind_some, nI_p e0, k1, Option.bind_some, nm_eq]
      unfold f_X7_spiral_88
      rw [nI_1]
      by_cases e : (spB (spC P) t).2 ≤ FN (Pb P (nI t) (mF P)) L'
      · rw [if_pos (nI_le e (by omega))]
        have := ih f (t + 1) B2 _ R2 V1 V3 (fun x => Pb_ov _ _ _) (by omega) (by omega)
        rw [spB, if_neg (by omega)] at this
        exact this
      · rw [if_neg (nI_ge (by omega) (by omega))]
        have ea : L' = aF P := by rcases k3 with k3 | k3 <;> omega
        have ec : FN (Pb P (nI t) (mF P)) L' = spC P t := by rw [ea]; rfl
        have := ih f (t + 1) B2 _ R2 V1 V3 (fun x => Pb_ov _ _ _) (by omega) (by omega)
        rw [spB, if_pos (by omega)] at this
        rw [ec]
        exact this
theorem m_sp42 (ok : MOK h b) (hW : WF P) {k33 : Int32 → Int32 → Int32 → Int32 → TT → Option (Int32 × TT)} {x1 x2 x3 x : Int32} : ∀ (d f y : Nat), y + d = mF P → d < f → f_X8_spiral_42 k33 f x1 x2 x3 x (nI y) (MSt h b (Pb P x y) L w c) = (f_X8_builds (MSt h b (Pb P x (mF P)) L w c)).bind fun q10 => nm (q10.1) fun y11 => (if x1 = (-9 : Int32) then f_X8_spiral_104 k33 x3 x y11 q10.2 else (if x2 ≤ y11 then f_X8_spiral_110 k33 x1 x2 x3 x q10.2 else f_X8_spiral_104 k33 x3 x y11 q10.2)) := by
  have hm := mF8 hW
  intro d
  induction d with
  | zero =>
    intro f y hy hf
    obtain ⟨f, rfl⟩ : ∃ g, f = g + 1 := ⟨f - 1, by omega⟩
    obtain rfl : y = mF P := by omega
    obtain ⟨V1, V2, V3⟩ := Pb_W hW x (mF P)
    rw [f_X8_spiral_42, show f_X8_v (MSt h b (Pb P x (mF P)) L w c) 6 = some (Pb P x (mF P) 6) from v_P (k := 6) ok (by omega), Option.bind_some, P6 V1, V3, if_pos (nI_le (Nat.le_refl _) (by omega))]
  | succ d ih =>
    intro f y hy hf
    obtain ⟨f, rfl⟩ : ∃ g, f = g + 1 := ⟨f - 1, by omega⟩
    obtain ⟨V1, V2, V3⟩ := Pb_W hW x y
    rw [f_X8_spiral_42, show f_X8_v (MSt h b (Pb P x y) L w c) 6 = some (Pb P x y 6) from v_P (k := 6) ok (by omega), Option.bind_some, P6 V1, V3, if_neg (nI_ge (by omega) (by omega))]
    unfold f_X8_spiral_77
    rw [k7, put_P ok (by omega), put_P ok (by omega), Option.bind_some, Option.bind_some, nI_1]
    have i := ih f (y + 1) (by omega) (by omega)
    rw [Pb] at i
    unfold fbV at i
    by_cases e : ((x >>> (nI y &&& 31)) &&& (1 : Int32)) = (1 : Int32)
    · rw [if_pos e] at i
      rw [if_pos e]
      exact i
    · rw [if_neg e] at i
      rw [if_neg e]
      exact i
def bsV (P : Nat → Int32) (t : Nat) : Int32 := if t = 0 then -9 else nI (spB (spC P) t).1
def fwV (P : Nat → Int32) (t : Nat) : Int32 := if t = 0 then 0 else nI (spB (spC P) t).2
theorem m_sp (ok : MOK h b) (hW : WF P) {N : Nat} (hN : N ≤ 256) (hN0 : N ≠ 0) : ∀ (d f t : Nat) (Q : Nat → Int32) (L : Nat) (w c : Nat → Int32), WF Q → mF Q = mF P → (∀ x, Pb Q x (mF P) = Pb P x (mF P)) → t + d = N → d < f → ∃ Q' L' w' c', f_X8_spiral_33 f (bsV P t) (fwV P t) (nI N) (nI t) (MSt h b Q L w c) = some (nI (spB (spC P) N).1, wr (MSt h b Q' L' w' c') 147 2 (nI (spB (spC P) N).2)) := by
  intro d
  induction d with
  | zero =>
    intro f t Q L w c W1 W2 W3 ht hf
    obtain ⟨f, rfl⟩ : ∃ g, f = g + 1 := ⟨f - 1, by omega⟩
    obtain rfl : t = N := by omega
    refine ⟨Q, L, w, c, ?_⟩
    rw [f_X8_spiral_33, if_pos (nI_le (Nat.le_refl _) (by omega))]
    unfold bsV fwV
    rw [if_neg hN0, if_neg hN0]
    rfl
  | succ d ih =>
    intro f t Q L w c W1 W2 W3 ht hf
    obtain ⟨f, rfl⟩ : ∃ g, f = g + 1 := ⟨f - 1, by omega⟩
    have s1 := sp_1 (spC P) t
    have s2 := sp_2 (spC P) t
    have s3 := spC_le P hW t
    obtain ⟨V1, V2, V3⟩ := Pb_W hW (nI t) (mF P)
    have va := Pb_a hW (nI t) (mF P)
    have bu := m_builds (h := h) (b := b) (L := L) (w := w) (c := c) ok V1
    rw [va] at bu
    have bu2 : f_X8_builds (MSt h b (Pb P (nI t) (mF P)) L w c) = some (nI (spC P t), MSt h b (Pb P (nI t) (mF P)) (aF P) (buW (Pb P (nI t) (mF P)) (aF P)) c0) := by
      rw [show spC P t = cnt (fB (buW (Pb P (nI t) (mF P)) (aF P))) (aF P) by unfold spC FN; rw [va]]
      exact bu
    obtain ⟨Q', L', w', c', q⟩ := ih f (t + 1) (Pb P (nI t) (mF P)) (aF P) (buW (Pb P (nI t) (mF P)) (aF P)) c0 V1 V3 (fun x => Pb_ov _ _ _) (by omega) (by omega)
    refine ⟨Q', L', w', c', ?_⟩
    rw [f_X8_spiral_33, if_neg (nI_ge (by omega) (by omega))]
    have m42 := m_sp42 (h := h) (b := b) (L := L) (w := w) (c := c) (k33 := f_X8_spiral_33 f) (x1 := bsV P t) (x2 := fwV P t) (x3 := nI N) (x := nI t) ok W1 (mF Q) KF 0 (by omega) (by have := mF8 W1; have := KF_ge; omega)
    rw [W2, W3, bu2, Option.bind_some, nm_eq] at m42
    refine m42.trans ?_
    unfold f_X8_spiral_104 f_X8_spiral_110
    rw [nI_1]
    unfold bsV fwV at q
    rw [if_neg (by omega), if_neg (by omega), spB] at q
    unfold bsV fwV
    by_cases e0 : t = 0
    · subst e0
      rw [if_pos rfl, if_pos rfl]
      rw [if_pos (show spC P 0 < (spB (spC P) 0).2 from by show spC P 0 < 61; omega)] at q
      exact q
    · rw [if_neg e0, if_neg e0, if_neg (nI_m9 (by omega))]
      by_cases e : spC P t < (spB (spC P) t).2
      · rw [if_pos e] at q
        rw [if_neg (nI_ge e (by omega))]
        exact q
      · rw [if_neg e] at q
        rw [if_pos (nI_le (by omega) (by omega))]
        exact q
theorem sh_m {m : Nat} (h1 : 1 ≤ m) (h8 : m ≤ 8) : ∃ N, N ≤ 256 ∧ N ≠ 0 ∧ (1 : Int32) <<< (nI m &&& 31) = nI N := by
  rcases (show m = 1 ∨ m = 2 ∨ m = 3 ∨ m = 4 ∨ m = 5 ∨ m = 6 ∨ m = 7 ∨ m = 8 by omega) with rfl | rfl | rfl | rfl | rfl | rfl | rfl | rfl
  · exact ⟨2, by decide, by decide, by decide⟩
  · exact ⟨4, by decide, by decide, by decide⟩
  · exact ⟨8, by decide, by decide, by decide⟩
  · exact ⟨16, by decide, by decide, by decide⟩
  · exact ⟨32, by decide, by decide, by decide⟩
  · exact ⟨64, by decide, by decide, by decide⟩
  · exact ⟨128, by decide, by decide, by decide⟩
  · exact ⟨256, by decide, by decide, by decide⟩
theorem st_spiral : ST_spiral INV := by
  intro h hI
  have x := hI.2.2.2.2.2
  rcases home x with ⟨a1, a2, -⟩ | ⟨a1, a2, P, L, w, c, H⟩
  · refine ⟨-4, h, h, ?_, ?_, hI⟩
    · unfold f_X7_spiral
      rw [if_pos a1]
    · unfold f_X8_spiral
      rw [if_pos ib04', tn0, if_pos a2]
  · have hm := mF8 H.1
    have d1 : h.1 (41 + 3) 1 = nI (mF P) := (H.2.1.2.2.2.2.2.1).trans (P6 H.1)
    obtain ⟨N, n1, n2, n3⟩ := sh_m H.1.1.1 hm
    obtain ⟨B1, g1, R1⟩ := c_own0 H
    obtain ⟨B', k1⟩ := c_sp (h := h) H.1 n1 N KF 0 B1 P R1 H.1 rfl (fun _ => rfl) (by omega) (by have := KF_ge; omega)
    have r1 : (wr (setB h 110 B') 0 13 (nI (spB (spC P) N).2)).1 161 = h.1 161 := by rw [wr_row (by omega), sb_o (by omega)]
    obtain ⟨Q', L', w', c', k2⟩ := m_sp (h := lk4 (wr (setB h 110 B') 0 13 (nI (spB (spC P) N).2))) (b := 608) lk4_ok H.1 n1 n2 N KF 0 P L w c H.1 rfl (fun _ => rfl) (by omega) (by have := KF_ge; omega)
    refine ⟨nI (spB (spC P) N).1, wr (setB h 110 B') 0 13 (nI (spB (spC P) N).2), _, ?_, ?_, inv_trT hI (B := B') (P := Q') (L := L') (w := w') (c := c') (v := nI (spB (spC P) N).2)⟩
    · unfold f_X7_spiral
      rw [if_neg (by rw [a1]; decide), g1, Option.bind_some, sb_o (by omega), d1, n3, nm_eq]
      exact k1
    · unfold f_X8_spiral
      rw [if_pos ib04', tn0, wr_row (by omega), sb_o (by omega), if_neg (by rw [a2]; decide), m_ownA (H.e0 r1), Option.bind_some, show f_X8_v (MSt (lk4 (wr (setB h 110 B') 0 13 (nI (spB (spC P) N).2))) 608 P L w c) 6 = some (P 6) from v_P (k := 6) lk4_ok (by omega), Option.bind_some, P6 H.1, n3, nm_eq]
      exact k2
end INV
