def GI (B : Nat → Nat → Int32) (P : Nat → Int32) (y : Nat) : Prop := (∀ z, z < y → B 11 z = nI (sF P z)) ∧ ∀ i, i < sF P y → B 12 i = nI (cF P i) ∧ B 13 i = cv (p1 P i) ∧ B 14 i = cv (p2 P i) ∧ B 15 i = cv (bF P i) ∧ B 16 i = cv (hF P i)
def MP (B : Nat → Nat → Int32) (P : Nat → Int32) : Prop := B 3 1 = P 6 ∧ B 3 2 = nI (aF P) ∧ ∀ y, y < mF P → B 4 y = P (7 + 3 * y) ∧ B 5 y = P (8 + 3 * y)
section CLS
variable {h : TT} {o : Nat} {B : Nat → Nat → Int32} {P : Nat → Int32} {L : Nat} {w c : Nat → Int32}
theorem c_rest (hW : WF P) {y p i : Nat} (hy : y < mF P) (hp : p < zF P y) (hi : i = sF P y + p) (h5 : ∀ z, z < mF P → B 5 z = P (8 + 3 * z)) (h11 : ∀ z, z < y → B 11 z = nI (sF P z)) : ∃ B', f_X0_rest (setB h o B) o (nI i) (nI y) (nI p) = some (setB h o B') ∧ (∀ a, a ≠ 13 → a ≠ 14 → B' a = B a) ∧ (B' 13 i = cv (p1 P i) ∧ B' 14 i = cv (p2 P i)) ∧ ∀ j, j ≠ i → B' 13 j = B 13 j ∧ B' 14 j = B 14 j := by
  have h60 := hW.a60
  have hm := mF8 hW
  have s := sF_all (P := P) hy
  have z := hW.1.2.2.1 _ hy
  have hci : cF P i = y := cF_un hy (by omega) (by omega)
  unfold f_X0_rest f_X0_rest_109
  rw [if_pos (inb_nI (by omega) (by decide)), nI_clamp (by omega), sb_w (by omega), nm_eq, if_pos (inb_nI (by omega) (by decide)), sb_w (by omega), nm_eq]
  by_cases e : y = 0
  · subst e
    rw [if_pos (by decide)]
    refine ⟨_, rfl, fun a h1 h2 => by rw [upB_r h2, upB_r h1], ⟨?_, ?_⟩, fun j hj => ⟨?_, ?_⟩⟩
    · rw [p1_0 hci, upB_1, if_neg (by omega), upB_1, if_pos ⟨rfl, rfl⟩]; rfl
    · rw [p2_0 hci, upB_1, if_pos ⟨rfl, rfl⟩]; rfl
    · rw [upB_1, if_neg (by omega), upB_1, if_neg (by omega)]
    · rw [upB_1, if_neg (by omega), upB_1, if_neg (by omega)]
  · have z2 := hW.1.2.2.1 (y - 1) (by omega)
    have q5 : upB (upB B 13 i (-9)) 14 i (-9) 5 y = nI (zF P y) := by rw [upB_r (by omega), upB_r (by omega), h5 y hy, (hW.2.2.2.2.2.2.2 y hy).1]
    have q5' : upB (upB B 13 i (-9)) 14 i (-9) 5 (y - 1) = nI (zF P (y - 1)) := by rw [upB_r (by omega), upB_r (by omega), h5 _ (by omega), (hW.2.2.2.2.2.2.2 _ (by omega)).1]
    have q11 : upB (upB B 13 i (-9)) 14 i (-9) 11 (y - 1) = nI (sF P (y - 1)) := by rw [upB_r (by omega), upB_r (by omega), h11 _ (by omega)]
    have q11' : ∀ x : Int32, upB (upB (upB B 13 i (-9)) 14 i (-9)) 13 i x 11 (y - 1) = nI (sF P (y - 1)) := fun x => by rw [upB_r (by omega), q11]
    have rql : p * zF P (y - 1) / zF P y < zF P (y - 1) := Nat.div_lt_of_lt_mul (Nat.mul_lt_mul_of_pos_right hp (by omega))
    have pb : p * zF P (y - 1) ≤ 12 * 12 := Nat.mul_le_mul (by omega) (by omega)
    have e1 : p1 P i = sF P (y - 1) + p * zF P (y - 1) / zF P y := by
      have : p1 P i = sF P (cF P i - 1) + rq (zF P) (cF P i) i := if_neg (by rw [show cRs (zF P) (mF P) i = y from hci]; exact e)
      rw [this, hci]
      unfold rq
      rw [show i - st (zF P) y = p by show i - sF P y = p; omega]
    have e2 : p2 P i = sF P (y - 1) + (if p * zF P (y - 1) / zF P y + 1 < zF P (y - 1) then p * zF P (y - 1) / zF P y + 1 else 0) := by
      have : p2 P i = sF P (cF P i - 1) + (if rq (zF P) (cF P i) i + 1 < zF P (cF P i - 1) then rq (zF P) (cF P i) i + 1 else 0) := if_neg (by rw [show cRs (zF P) (mF P) i = y from hci]; exact e)
      rw [this, hci]
      unfold rq
      rw [show i - st (zF P) y = p by show i - sF P y = p; omega]
    have sp := sF_all (P := P) (y := y - 1) (by omega)
    rw [if_neg (fun q => e ((nI_z (by omega)).mp q)), if_pos (inb_nI (by omega) (by decide)), sb_5, nI_clamp (by omega), q5, if_pos (show (0 : Int32) < nI (zF P y) from nI_lt (a := 0) (by omega) (by omega)), nI_p e, if_pos (inb_nI (by omega) (by decide)), nI_clamp (show y - 1 < 2 ^ 31 by omega), q5', nm_eq, if_pos (inb_nI (by omega) (by decide)), if_neg (fun q => by have := (nI_z (by omega)).mp q; omega), pk_mul, pk_div (by omega) (by omega) (by omega), nm_eq, if_pos (inb_nI (by omega) (by decide)), if_pos (inb_nI (by omega) (by decide)), sb_11, q11, nI_add, sb_w (by omega), nm_eq, if_pos (inb_nI (by omega) (by decide)), sb_11, q11', nI_1, if_pos (inb_nI (by omega) (by decide)), if_pos (inb_nI (by omega) (by decide)), nm_eq, nm_eq, sb_w (by omega), sb_w (by omega)]
    have fin : ∀ x : Int32, x = cv (p2 P i) → ∃ B', some (setB h o (upB (upB (upB (upB B 13 i (-9)) 14 i (-9)) 13 i (nI (sF P (y - 1) + p * zF P (y - 1) / zF P y))) 14 i x)) = some (setB h o B') ∧ (∀ a, a ≠ 13 → a ≠ 14 → B' a = B a) ∧ (B' 13 i = cv (p1 P i) ∧ B' 14 i = cv (p2 P i)) ∧ ∀ j, j ≠ i → B' 13 j = B 13 j ∧ B' 14 j = B 14 j := fun x hx => by
      refine ⟨_, rfl, fun a h1 h2 => by rw [upB_r h2, upB_r h1, upB_r h2, upB_r h1], ⟨?_, ?_⟩, fun j hj => ⟨?_, ?_⟩⟩
      · rw [upB_1, if_neg (by omega), upB_1, if_pos ⟨rfl, rfl⟩, e1, cv_n (by omega)]
      · rw [upB_1, if_pos ⟨rfl, rfl⟩, hx]
      · rw [upB_1, if_neg (by omega), upB_1, if_neg (by omega), upB_1, if_neg (by omega), upB_1, if_neg (by omega)]
      · rw [upB_1, if_neg (by omega), upB_1, if_neg (by omega), upB_1, if_neg (by omega), upB_1, if_neg (by omega)]
    by_cases e3 : p * zF P (y - 1) / zF P y + 1 < zF P (y - 1)
    · rw [if_neg (nI_ge e3 (by omega)), nI_add]
      exact fin _ (by rw [e2, if_pos e3, cv_n (by omega)])
    · rw [if_pos (nI_le (by omega) (by omega)), show nI (sF P (y - 1)) + 0 = nI (sF P (y - 1) + 0) from nI_add _ 0]
      exact fin _ (by rw [e2, if_neg e3, cv_n (by omega)])
theorem c_m24 (hW : WF P) {k4 : Int32 → Int32 → TT → Option TT} {y : Nat} (hy : y < mF P) : ∀ (d f p : Nat) (B : Nat → Nat → Int32), MP B P → (∀ z, z < y → B 11 z = nI (sF P z)) → p + d = zF P y → d < f → ∃ B', f_X0_measure_24 o k4 f (nI (sF P y)) (nI y) (nI p) (setB h o B) = f_X0_measure_69 o k4 (nI (sF P y)) (nI y) (setB h o B') ∧ (∀ a, a ≠ 12 → a ≠ 13 → a ≠ 14 → B' a = B a) ∧ (∀ i, sF P y + p ≤ i → i < sF P y + zF P y → B' 12 i = nI (cF P i) ∧ B' 13 i = cv (p1 P i) ∧ B' 14 i = cv (p2 P i)) ∧ ∀ i, i < sF P y + p → B' 12 i = B 12 i ∧ B' 13 i = B 13 i ∧ B' 14 i = B 14 i := by
  have h60 := hW.a60
  have hm := mF8 hW
  have s := sF_all (P := P) hy
  have z := hW.1.2.2.1 _ hy
  intro d
  induction d with
  | zero =>
    intro f p B hM h11 hp hf
    obtain ⟨f, rfl⟩ : ∃ g, f = g + 1 := ⟨f - 1, by omega⟩
    rw [f_X0_measure_24, if_pos (inb_nI (by omega) (by decide)), sb_5, nI_clamp (by omega), (hM.2.2 y hy).2, (hW.2.2.2.2.2.2.2 y hy).1, if_pos (nI_le (by omega) (by omega))]
    exact ⟨B, rfl, fun _ _ _ _ => rfl, fun i h1 h2 => by omega, fun i _ => ⟨rfl, rfl, rfl⟩⟩
  | succ d ih =>
    intro f p B hM h11 hp hf
    obtain ⟨f, rfl⟩ : ∃ g, f = g + 1 := ⟨f - 1, by omega⟩
    have hci : cF P (sF P y + p) = y := cF_un hy (by omega) (by omega)
    rw [f_X0_measure_24, if_pos (inb_nI (by omega) (by decide)), sb_5, nI_clamp (by omega), (hM.2.2 y hy).2, (hW.2.2.2.2.2.2.2 y hy).1, if_neg (nI_ge (by omega) (by omega)), nI_add, if_neg (show ¬ (60 : Int32) ≤ nI (sF P y + p) from nI_ge (b := 60) (by omega) (by omega)), if_pos (inb_nI (by omega) (by decide)), nI_clamp (by omega), sb_w (by omega), nm_eq]
    obtain ⟨B1, e1, e2, e3, e4⟩ := c_rest (h := h) (o := o) (B := upB B 12 (sF P y + p) (nI y)) hW hy (p := p) (by omega) rfl (fun z hz => by rw [upB_r (by omega)]; exact (hM.2.2 z hz).2) (fun z hz => by rw [upB_r (by omega)]; exact h11 z hz)
    have br : ∀ a, a ≠ 12 → a ≠ 13 → a ≠ 14 → B1 a = B a := fun a h1 h2 h3 => by rw [e2 a h2 h3, upB_r h1]
    rw [e1, Option.bind_some, nI_1]
    obtain ⟨B', g1, g2, g3, g4⟩ := ih f (p + 1) B1 ⟨by rw [br 3 (by omega) (by omega) (by omega)]; exact hM.1, by rw [br 3 (by omega) (by omega) (by omega)]; exact hM.2.1, by rw [br 4 (by omega) (by omega) (by omega), br 5 (by omega) (by omega) (by omega)]; exact hM.2.2⟩ (by rw [br 11 (by omega) (by omega) (by omega)]; exact h11) (by omega) (by omega)
    refine ⟨B', g1, fun a h1 h2 h3 => by rw [g2 a h1 h2 h3, br a h1 h2 h3], fun i h1 h2 => ?_, fun i hi => ?_⟩
    · by_cases e : i = sF P y + p
      · obtain ⟨q1, q2, q3⟩ := g4 i (by omega)
        rw [q1, q2, q3, e, e3.1, e3.2, e2 12 (by omega) (by omega), upB_1, if_pos ⟨rfl, rfl⟩, hci]
        exact ⟨rfl, rfl, rfl⟩
      · exact g3 i (by omega) h2
    · obtain ⟨q1, q2, q3⟩ := g4 i (by omega)
      rw [q1, q2, q3, (e4 i (by omega)).1, (e4 i (by omega)).2, e2 12 (by omega) (by omega), upB_1, if_neg (by omega), upB_r (by omega), upB_r (by omega)]
      exact ⟨rfl, rfl, rfl⟩
theorem c_m4 (hW : WF P) : ∀ (d f y : Nat) (B : Nat → Nat → Int32), MP B P → GI B P y → y + d = mF P → d < f → ∃ B', f_X0_measure_4 o f (nI (sF P y)) (nI y) (setB h o B) = some (setB h o B') ∧ (∀ a, a < 11 → B' a = B a) ∧ GI B' P (mF P) := by
  have h60 := hW.a60
  have hm := mF8 hW
  intro d
  induction d with
  | zero =>
    intro f y B hM hG hy hf
    obtain ⟨f, rfl⟩ : ∃ g, f = g + 1 := ⟨f - 1, by omega⟩
    rw [f_X0_measure_4, sb_3, hM.1, P6 hW, if_pos (nI_le (by omega) (by omega))]
    refine ⟨B, rfl, fun _ _ => rfl, ?_⟩
    rw [show mF P = y by omega]
    exact hG
  | succ d ih =>
    intro f y B hM hG hy hf
    obtain ⟨f, rfl⟩ : ∃ g, f = g + 1 := ⟨f - 1, by omega⟩
    have hy' : y < mF P := by omega
    have s := sF_all (P := P) hy'
    have z := hW.1.2.2.1 _ hy'
    rw [f_X0_measure_4, sb_3, hM.1, P6 hW, if_neg (nI_ge (by omega) (by omega)), if_pos (inb_nI (by omega) (by decide)), nI_clamp (by omega), sb_w (by omega), nm_eq]
    obtain ⟨B1, e1, e2, e3, e4⟩ := c_m24 (h := h) (o := o) hW (k4 := f_X0_measure_4 o f) hy' (zF P y) KF 0 (upB B 11 y (nI (sF P y))) ⟨by rw [upB_r (by omega)]; exact hM.1, by rw [upB_r (by omega)]; exact hM.2.1, by rw [upB_r (by omega), upB_r (by omega)]; exact hM.2.2⟩ (fun z hz => by rw [upB_1, if_neg (by omega)]; exact hG.1 z hz) (by omega) (by have := KF_ge; omega)
    rw [show (0 : Int32) = nI 0 from rfl, e1]
    unfold f_X0_measure_69
    have br : ∀ a, a < 11 → B1 a = B a := fun a ha => by rw [e2 a (by omega) (by omega) (by omega), upB_r (by omega)]
    obtain ⟨B2, g1, g2, g3, g4⟩ := c_joinC (h := h) (o := o) (B := B1) hW hy' (by rw [br 4 (by omega)]; exact (hM.2.2 y hy').1) (by rw [br 3 (by omega)]; exact hM.2.1) (by rw [e2 11 (by omega) (by omega) (by omega), upB_1, if_pos ⟨rfl, rfl⟩]) (by rw [br 5 (by omega)]; exact (hM.2.2 y hy').2)
    have br2 : ∀ a, a < 11 → B2 a = B a := fun a ha => by rw [g2 a (by omega) (by omega), br a ha]
    rw [g1, Option.bind_some, if_pos (inb_nI (by omega) (by decide)), sb_5, nI_clamp (by omega), br2 5 (by omega), (hM.2.2 y hy').2, (hW.2.2.2.2.2.2.2 y hy').1, nI_add, nm_eq, nI_1]
    have hG2 : GI B2 P (y + 1) := by
      refine ⟨fun z hz => ?_, fun i hi => ?_⟩
      · rw [g2 11 (by omega) (by omega), e2 11 (by omega) (by omega) (by omega), upB_1]
        by_cases e : z = y
        · rw [if_pos ⟨rfl, e⟩, e]
        · rw [if_neg (by omega)]
          exact hG.1 z (by omega)
      · have hi2 : i < sF P y + zF P y := hi
        rw [g2 12 (by omega) (by omega), g2 13 (by omega) (by omega), g2 14 (by omega) (by omega)]
        by_cases e : i < sF P y
        · obtain ⟨q1, q2, q3⟩ := e4 i (by omega)
          obtain ⟨q4, q5⟩ := g4 i (Or.inl e)
          rw [q1, q2, q3, q4, q5, e2 15 (by omega) (by omega) (by omega), e2 16 (by omega) (by omega) (by omega), upB_r (by omega), upB_r (by omega), upB_r (by omega), upB_r (by omega), upB_r (by omega)]
          exact hG.2 i e
        · obtain ⟨q1, q2, q3⟩ := e3 i (by omega) hi2
          obtain ⟨q4, q5⟩ := g3 i (by omega) hi2
          exact ⟨q1, q2, q3, q4, q5⟩
    obtain ⟨B', k1, k2, k3⟩ := ih f (y + 1) B2 ⟨by rw [br2 3 (by omega)]; exact hM.1, by rw [br2 3 (by omega)]; exact hM.2.1, by rw [br2 4 (by omega), br2 5 (by omega)]; exact hM.2.2⟩ hG2 (by omega) (by omega)
    exact ⟨B', k1, fun a ha => by rw [k2 a ha, br2 a ha], k3⟩
theorem c_measure (hW : WF P) (hM : MP B P) : ∃ B', f_X0_measure (setB h o B) o = some (setB h o B') ∧ (∀ a, a < 11 → B' a = B a) ∧ GI B' P (mF P) :=
  c_m4 hW (mF P) KF 0 B hM ⟨fun z hz => by omega, fun i hi => absurd hi (Nat.not_lt_zero i)⟩ (by omega) (by have := KF_ge; have := mF8 hW; omega)
theorem c_begin (hW : WF P) {o1 o2 : Nat} {x3 : Int32} (s0 : h.1 o1 0 = 1) (s1 : ∀ k, k < 4 → h.1 (o1 + 1) k = P k) (q0 : h.1 o2 0 = 1) (q1 : h.1 o2 1 = P 6) (q2 : h.1 o2 2 = nI (aF P)) (q3 : h.1 o2 3 = P 4) (q4 : x3 = P 5) (qy : ∀ y, y < mF P → h.1 (o2 + 1) y = P (7 + 3 * y) ∧ h.1 (o2 + 2) y = P (8 + 3 * y) ∧ h.1 (o2 + 3) y = P (9 + 3 * y)) (d1 : o1 + 2 ≤ o ∨ o + 17 ≤ o1) (d2 : o2 + 4 ≤ o ∨ o + 17 ≤ o2) : ∃ B', f_X0_begin (setB h o B) o o1 o2 x3 = some (setB h o B') ∧ RS B' P ∧ RD B' P 0 w0 c0 := by
  have h60 := hW.a60
  have hm := mF8 hW
  unfold f_X0_begin
  rw [sb_w0, nm_eq, c_take5 (by rw [s0]; decide) (by omega) (by omega), Option.bind_some, c_take3 (by rw [q0]; decide) (by omega) (by omega) (by omega) (by omega), Option.bind_some, sb_w0, nm_eq]
  generalize hB1 : upB (cpB (cpB (cpB (upB (upB (upB (upB (cpB (upB (upB B 0 0 1) 1 0 (h.1 o1 0)) 2 (h.1 (o1 + 1)) 4) 3 0 (h.1 o2 0)) 3 1 (h.1 o2 1)) 3 2 (h.1 o2 2)) 3 3 (h.1 o2 3)) 4 (h.1 (o2 + 1)) 8) 5 (h.1 (o2 + 2)) 8) 6 (h.1 (o2 + 3)) 8) 0 3 x3 = B1
  have b00 : B1 0 0 = 1 := by rw [← hB1]; simp [cpB_1, upB_1]
  have b03 : B1 0 3 = x3 := by rw [← hB1]; simp [cpB_1, upB_1]
  have b10 : B1 1 0 = 1 := by rw [← hB1]; simp [cpB_1, upB_1, s0]
  have b2 : ∀ k, k < 4 → B1 2 k = P k := fun k hk => by rw [← hB1]; simp [cpB_1, upB_1, hk, s1 k hk]
  have b30 : B1 3 0 = 1 := by rw [← hB1]; simp [cpB_1, upB_1, q0]
  have b31 : B1 3 1 = P 6 := by rw [← hB1]; simp [cpB_1, upB_1, q1]
  have b32 : B1 3 2 = nI (aF P) := by rw [← hB1]; simp [cpB_1, upB_1, q2]
  have b33 : B1 3 3 = P 4 := by rw [← hB1]; simp [cpB_1, upB_1, q3]
  have by4 : ∀ y, y < mF P → B1 4 y = P (7 + 3 * y) := fun y hy => by rw [← hB1]; simp [cpB_1, upB_1, show y < 8 by omega, (qy y hy).1]
  have by5 : ∀ y, y < mF P → B1 5 y = P (8 + 3 * y) := fun y hy => by rw [← hB1]; simp [cpB_1, upB_1, show y < 8 by omega, (qy y hy).2.1]
  have by6 : ∀ y, y < mF P → B1 6 y = P (9 + 3 * y) := fun y hy => by rw [← hB1]; simp [cpB_1, upB_1, show y < 8 by omega, (qy y hy).2.2]
  obtain ⟨B2, e1, e2, e3⟩ := c_measure (h := h) (o := o) (B := B1) hW ⟨b31, b32, fun y hy => ⟨by4 y hy, by5 y hy⟩⟩
  rw [e1, Option.bind_some]
  have R : RS B2 P := by
    refine ⟨by rw [e2 0 (by omega)]; exact b00, by rw [e2 1 (by omega)]; exact b10, by rw [e2 3 (by omega)]; exact b30, by rw [e2 0 (by omega), b03]; exact q4, by rw [e2 2 (by omega)]; exact b2, by rw [e2 3 (by omega)]; exact b31, by rw [e2 3 (by omega)]; exact b32, by rw [e2 3 (by omega)]; exact b33, fun y hy => ?_, e3.2⟩
    rw [e2 4 (by omega), e2 5 (by omega), e2 6 (by omega)]
    exact ⟨by4 y hy, by5 y hy, by6 y hy, e3.1 y hy⟩
  obtain ⟨B3, k1, k2, k3, -, -⟩ := c_clear (h := h) (o := o) hW R
  rw [k1]
  exact ⟨B3, rfl, k2, k3⟩
end CLS
