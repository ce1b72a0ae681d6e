def cpB (B : Nat → Nat → Int32) (j : Nat) (r : Nat → Int32) (n : Nat) : Nat → Nat → Int32 := fun a => if a = j then va_cpy r (B j) 0 0 n else B a
def AGR (B A : Nat → Nat → Int32) : Prop := (B 0 0 = A 0 0 ∧ B 0 3 = A 0 3 ∧ B 0 4 = A 0 4 ∧ B 0 5 = A 0 5 ∧ B 0 6 = A 0 6) ∧ B 1 0 = A 1 0 ∧ (∀ k, k < 4 → B 2 k = A 2 k ∧ B 3 k = A 3 k) ∧ (∀ y, y < 8 → B 4 y = A 4 y ∧ B 5 y = A 5 y ∧ B 6 y = A 6 y ∧ B 10 y = A 10 y ∧ B 11 y = A 11 y) ∧ ∀ i, i < 60 → B 7 i = A 7 i ∧ B 8 i = A 8 i ∧ B 9 i = A 9 i ∧ B 12 i = A 12 i ∧ B 13 i = A 13 i ∧ B 14 i = A 14 i ∧ B 15 i = A 15 i ∧ B 16 i = A 16 i
section CLS
variable {h : TT} {o : Nat} {B : Nat → Nat → Int32} {P : Nat → Int32} {L : Nat} {w c : Nat → Int32}
theorem imin_n {a b : Nat} (ha : a < 2 ^ 31) (hb : b < 2 ^ 31) : imin (nI a) (nI b) = nI (min a b) := by
  unfold imin
  by_cases e : b < a
  · rw [if_pos (nI_lt e ha), Nat.min_eq_right (by omega)]
  · rw [if_neg (nI_nlt (by omega) hb), Nat.min_eq_left (by omega)]
theorem cpB_1 (j : Nat) (r : Nat → Int32) (n a k : Nat) : cpB B j r n a k = if a = j ∧ k < n then r k else B a k := by
  unfold cpB
  by_cases e : a = j
  · subst e
    rw [if_pos rfl]
    by_cases e2 : k < n
    · rw [if_pos ⟨rfl, e2⟩, pk_cpy_in (by omega) (by omega)]
      congr 1
      omega
    · rw [if_neg (fun q => e2 q.2), pk_cpy_out (by omega)]
  · rw [if_neg e, if_neg (fun q => e q.1)]
theorem cpB_w {j n : Nat} {r : Nat → Int32} (hj : j < 17) : wrow (setB h o B) (o + j) (va_cpy r ((setB h o B).1 (o + j)) 0 0 n) = setB h o (cpB B j r n) := by
  rw [sb_r hj, c_wrow hj]
  rfl
theorem nm_eq {α β : Type} (a : α) (f : α → β) : nm a f = f a := rfl
theorem tn4 : (4 : Int32).toNatClampNeg = 4 := nI_clamp (n := 4) (by decide)
theorem tn8 : (8 : Int32).toNatClampNeg = 8 := nI_clamp (n := 8) (by decide)
theorem tn60 : (60 : Int32).toNatClampNeg = 60 := nI_clamp (n := 60) (by decide)
theorem cp4 : cpok 0 0 4 4 4 = true := by decide
theorem cp8 : cpok 0 0 8 8 8 = true := by decide
theorem cp60 : cpok 0 0 60 60 60 = true := by decide
theorem c_take5 {o2 : Nat} (hz : isZ (h.1 o2 0) = true) (d0 : o2 < o ∨ o + 17 ≤ o2) (d1 : o2 + 1 < o ∨ o + 17 ≤ o2 + 1) : f_X5_takeFrom (setB h o B) (o + 1) o2 = some (setB h o (cpB (upB B 1 0 (h.1 o2 0)) 2 (h.1 (o2 + 1)) 4)) := by
  unfold f_X5_takeFrom
  simp only [nm]
  rw [sb_o d0, if_pos hz, if_pos cp4, sb_w (by omega), sb_o d1, tn0, tn4, show o + 1 + 1 = o + 2 from rfl, cpB_w (by omega)]
theorem c_take3 {o2 : Nat} (hz : isZ (h.1 o2 0) = true) (d0 : o2 < o ∨ o + 17 ≤ o2) (d1 : o2 + 1 < o ∨ o + 17 ≤ o2 + 1) (d2 : o2 + 2 < o ∨ o + 17 ≤ o2 + 2) (d3 : o2 + 3 < o ∨ o + 17 ≤ o2 + 3) : f_X3_takeFrom (setB h o B) (o + 3) o2 = some (setB h o (cpB (cpB (cpB (upB (upB (upB (upB B 3 0 (h.1 o2 0)) 3 1 (h.1 o2 1)) 3 2 (h.1 o2 2)) 3 3 (h.1 o2 3)) 4 (h.1 (o2 + 1)) 8) 5 (h.1 (o2 + 2)) 8) 6 (h.1 (o2 + 3)) 8)) := by
  unfold f_X3_takeFrom
  simp only [nm]
  rw [sb_o d0, if_pos hz, if_pos cp8, if_pos cp8, if_pos cp8, sb_w (by omega), sb_o d0, sb_w (by omega), sb_o d0, sb_w (by omega), sb_o d0, sb_w (by omega), sb_o d1, tn0, tn8, show o + 3 + 1 = o + 4 from rfl, show o + 3 + 2 = o + 5 from rfl, show o + 3 + 3 = o + 6 from rfl, cpB_w (by omega), sb_o d2, cpB_w (by omega), sb_o d3, cpB_w (by omega)]
theorem c_takeB {o1 : Nat} (hz : isZ (h.1 o1 0) = true) (hz1 : isZ (h.1 (o1 + 1) 0) = true) (hz3 : isZ (h.1 (o1 + 3) 0) = true) (d : ∀ j, j < 17 → o1 + j < o ∨ o + 17 ≤ o1 + j) : ∃ B', f_X0_takeFrom (setB h o B) o o1 = some (setB h o B') ∧ AGR B' (fun j => h.1 (o1 + j)) := by
  have dd : ∀ (B : Nat → Nat → Int32) (j : Nat), j < 17 → (setB h o B).1 (o1 + j) = h.1 (o1 + j) := fun B j hj => sb_o (d j hj)
  have d0 : ∀ (B : Nat → Nat → Int32), (setB h o B).1 o1 = h.1 o1 := fun B => dd B 0 (by omega)
  have z0 : o1 < o ∨ o + 17 ≤ o1 := d 0 (by omega)
  have z1 := d 1 (by omega)
  have z2 := d 2 (by omega)
  have z3 := d 3 (by omega)
  have z4 := d 4 (by omega)
  have z5 := d 5 (by omega)
  have z6 := d 6 (by omega)
  unfold f_X0_takeFrom
  rw [d0, if_pos hz, sb_w0, nm_eq, c_take5 hz1 z1 z2, Option.bind_some, c_take3 hz3 z3 z4 z5 z6, Option.bind_some]
  rw [d0, sb_w0, nm_eq, d0, sb_w0, nm_eq, d0, sb_w0, nm_eq, d0, sb_w0, nm_eq]
  rw [if_pos cp8, tn0, tn8, tn60]
  rw [dd _ 10 (by omega), cpB_w (by omega), nm_eq]
  rw [if_pos cp8, dd _ 11 (by omega), cpB_w (by omega), nm_eq]
  rw [if_pos cp60, dd _ 7 (by omega), cpB_w (by omega), nm_eq]
  rw [if_pos cp60, dd _ 8 (by omega), cpB_w (by omega), nm_eq]
  rw [if_pos cp60, dd _ 9 (by omega), cpB_w (by omega), nm_eq]
  rw [if_pos cp60, dd _ 12 (by omega), cpB_w (by omega), nm_eq]
  rw [if_pos cp60, dd _ 13 (by omega), cpB_w (by omega), nm_eq]
  rw [if_pos cp60, dd _ 14 (by omega), cpB_w (by omega), nm_eq]
  rw [if_pos cp60, dd _ 15 (by omega), cpB_w (by omega), nm_eq]
  rw [if_pos cp60, dd _ 16 (by omega), cpB_w (by omega), nm_eq]
  refine ⟨_, rfl, ⟨?_, ?_, ?_, ?_, ?_⟩, ?_, fun k hk => ⟨?_, ?_⟩, fun y hy => ⟨?_, ?_, ?_, ?_, ?_⟩, fun i hi => ⟨?_, ?_, ?_, ?_, ?_, ?_, ?_, ?_⟩⟩
  · simp [cpB_1, upB_1]
  · simp [cpB_1, upB_1]
  · simp [cpB_1, upB_1]
  · simp [cpB_1, upB_1]
  · simp [cpB_1, upB_1]
  · simp [cpB_1, upB_1]
  · simp [cpB_1, upB_1, hk]
  · simp only [cpB_1, upB_1]
    rcases (show k = 0 ∨ k = 1 ∨ k = 2 ∨ k = 3 by omega) with rfl | rfl | rfl | rfl <;> simp
  · simp [cpB_1, upB_1, hy]
  · simp [cpB_1, upB_1, hy]
  · simp [cpB_1, upB_1, hy]
  · simp [cpB_1, upB_1, hy]
  · simp [cpB_1, upB_1, hy]
  · simp [cpB_1, upB_1, hi]
  · simp [cpB_1, upB_1, hi]
  · simp [cpB_1, upB_1, hi]
  · simp [cpB_1, upB_1, hi]
  · simp [cpB_1, upB_1, hi]
  · simp [cpB_1, upB_1, hi]
  · simp [cpB_1, upB_1, hi]
  · simp [cpB_1, upB_1, hi]
theorem RS.ag {A : Nat → Nat → Int32} (hW : WF P) (R : RS A P) (g : AGR B A) : RS B P := by
  have h60 := hW.a60
  have hm := mF8 hW
  obtain ⟨a1, a2, a3, a4, a5, a6, a7, a8, a9, a10⟩ := R
  obtain ⟨⟨g0, g3, -, -, -⟩, g1, g23, gy, gi⟩ := g
  refine ⟨g0.trans a1, g1.trans a2, (g23 0 (by omega)).2.trans a3, g3.trans a4, fun k hk => (g23 k hk).1.trans (a5 k hk), (g23 1 (by omega)).2.trans a6, (g23 2 (by omega)).2.trans a7, (g23 3 (by omega)).2.trans a8, fun y hy => ?_, fun i hi => ?_⟩
  · obtain ⟨b1, b2, b3, b4, b5⟩ := gy y (by omega)
    obtain ⟨e1, e2, e3, e4⟩ := a9 y hy
    exact ⟨b1.trans e1, b2.trans e2, b3.trans e3, b5.trans e4⟩
  · obtain ⟨-, -, -, b4, b5, b6, b7, b8⟩ := gi i (by omega)
    obtain ⟨e1, e2, e3, e4, e5⟩ := a10 i hi
    exact ⟨b4.trans e1, b5.trans e2, b6.trans e3, b7.trans e4, b8.trans e5⟩
theorem RD.ag {A : Nat → Nat → Int32} (hW : WF P) (D : RD A P L w c) (g : AGR B A) : RD B P L w c := by
  have h60 := hW.a60
  have hm := mF8 hW
  obtain ⟨a1, a2, a3, a4, a5, a6⟩ := D
  obtain ⟨⟨-, -, g4, g5, g6⟩, -, -, gy, gi⟩ := g
  refine ⟨g4.trans a1, g5.trans a2, by rw [g6]; exact a3, fun i hi => ⟨(gi i hi).1.trans (a4 i hi).1, (gi i hi).2.1.trans (a4 i hi).2⟩, fun i hi => (gi i (by omega)).2.2.1.trans (a5 i hi), fun y hy => (gy y (by omega)).2.2.2.1.trans (a6 y hy)⟩
theorem c_join30 (hW : WF P) {y : Nat} (hy : y < mF P) : ∀ (d f k : Nat) (B : Nat → Nat → Int32), B 4 y = P (7 + 3 * y) → B 3 2 = nI (aF P) → k + d = sF P y + zF P y → sF P y ≤ k → d < f → ∃ B', f_X0_joinCourse_30 o f (nI y) (nI (sF P y)) (nI (zF P y)) (nI (sF P y + zF P y)) (nI k) (setB h o B) = some (setB h o B') ∧ (∀ a, a ≠ 15 → a ≠ 16 → B' a = B a) ∧ (∀ i, k ≤ i → i < sF P y + zF P y → B' 15 i = cv (bF P i) ∧ B' 16 i = cv (hF P i)) ∧ ∀ i, i < k ∨ sF P y + zF P y ≤ i → B' 15 i = B 15 i ∧ B' 16 i = B 16 i := by
  have h60 := hW.a60
  have hm := mF8 hW
  have s := sF_all (P := P) hy
  have z := hW.1.2.2.1 _ hy
  intro d
  induction d with
  | zero =>
    intro f k B h4 h3 hk hs hf
    obtain ⟨f, rfl⟩ : ∃ g, f = g + 1 := ⟨f - 1, by omega⟩
    rw [f_X0_joinCourse_30, if_pos (nI_le (by omega) (by omega))]
    exact ⟨B, rfl, fun _ _ _ => rfl, fun i h1 h2 => by omega, fun i _ => ⟨rfl, rfl⟩⟩
  | succ d ih =>
    intro f k B h4 h3 hk hs hf
    obtain ⟨f, rfl⟩ : ∃ g, f = g + 1 := ⟨f - 1, by omega⟩
    have hck : cF P k = y := cF_un hy hs (by omega)
    have fin : ∀ x1 x2 : Int32, x1 = cv (bF P k) → x2 = cv (hF P k) → ∃ B', f_X0_joinCourse_30 o f (nI y) (nI (sF P y)) (nI (zF P y)) (nI (sF P y + zF P y)) (nI (k + 1)) (setB h o (upB (upB B 15 k x1) 16 k x2)) = some (setB h o B') ∧ (∀ a, a ≠ 15 → a ≠ 16 → B' a = B a) ∧ (∀ i, k ≤ i → i < sF P y + zF P y → B' 15 i = cv (bF P i) ∧ B' 16 i = cv (hF P i)) ∧ ∀ i, i < k ∨ sF P y + zF P y ≤ i → B' 15 i = B 15 i ∧ B' 16 i = B 16 i := fun x1 x2 e1 e2 => by
      obtain ⟨B', g1, g2, g3, g4⟩ := ih f (k + 1) (upB (upB B 15 k x1) 16 k x2) (by rw [upB_r (by omega), upB_r (by omega)]; exact h4) (by rw [upB_r (by omega), upB_r (by omega)]; exact h3) (by omega) (by omega) (by omega)
      refine ⟨B', g1, fun a h1 h2 => by rw [g2 a h1 h2, upB_r h2, upB_r h1], fun i h1 h2 => ?_, fun i hi => ?_⟩
      · by_cases e : i = k
        · obtain ⟨q1, q2⟩ := g4 i (by omega)
          rw [q1, q2, upB_1, if_neg (by omega), upB_1, if_pos ⟨rfl, e⟩, upB_1, if_pos ⟨rfl, e⟩, e]
          exact ⟨e1, e2⟩
        · exact g3 i (by omega) h2
      · obtain ⟨q1, q2⟩ := g4 i (by omega)
        rw [q1, q2, upB_1, if_neg (by omega), upB_1, if_neg (by omega), upB_1, if_neg (by omega), upB_1, if_neg (by omega)]
        exact ⟨rfl, rfl⟩
    rw [f_X0_joinCourse_30, if_neg (nI_ge (by omega) (by omega)), if_pos (inb_nI (by omega) (by decide)), sb_4, nI_clamp (by omega), h4]
    by_cases hfm : P (7 + 3 * y) = 2
    · have eb : bF P k = if k = 0 then 100 else k - 1 := if_pos (by rw [show cRs (zF P) (mF P) k = y from hck]; exact hfm)
      have eh : hF P k = if k + 1 < aF P then k + 1 else 100 := if_pos (by rw [show cRs (zF P) (mF P) k = y from hck]; exact hfm)
      rw [if_pos hfm]
      have h70 : ∀ x1 : Int32, x1 = cv (bF P k) → ∃ B', f_X0_joinCourse_70 o (f_X0_joinCourse_30 o f) (nI y) (nI (sF P y)) (nI (zF P y)) (nI (sF P y + zF P y)) (nI k) x1 (nI k) (setB h o B) = some (setB h o B') ∧ (∀ a, a ≠ 15 → a ≠ 16 → B' a = B a) ∧ (∀ i, k ≤ i → i < sF P y + zF P y → B' 15 i = cv (bF P i) ∧ B' 16 i = cv (hF P i)) ∧ ∀ i, i < k ∨ sF P y + zF P y ≤ i → B' 15 i = B 15 i ∧ B' 16 i = B 16 i := fun x1 hx1 => by
        unfold f_X0_joinCourse_70 f_X0_joinCourse_100 f_X0_joinCourse_172
        simp only [nm]
        rw [if_pos (inb_nI (by omega) (by decide)), if_pos (inb_nI (by omega) (by decide)), if_pos (inb_nI (by omega) (by decide)), nI_clamp (by omega), sb_w (by omega), sb_3, upB_r (by omega), h3, nI_1, sb_w (by omega), sb_w (by omega)]
        by_cases e : k + 1 < aF P
        · rw [if_neg (nI_ge e (by omega))]
          exact fin x1 _ hx1 (by rw [eh, if_pos e, cv_n (by omega)])
        · rw [if_pos (nI_le (by omega) (by omega))]
          exact fin x1 _ hx1 (by rw [eh, if_neg e]; rfl)
      by_cases e0 : k = 0
      · rw [if_pos (show nI k ≤ 0 by rw [e0]; decide)]
        exact h70 _ (by rw [eb, if_pos e0]; rfl)
      · rw [if_neg (nI_nle (by omega) (by omega)), nI_p e0]
        exact h70 _ (by rw [eb, if_neg e0, cv_n (by omega)])
    · have eb : bF P k = if zF P y < 2 then 100 else if k = sF P y then sF P y + zF P y - 1 else k - 1 := by
        rw [← hck] at hfm ⊢
        exact if_neg hfm
      have eh : hF P k = if zF P y < 3 then 100 else if k + 1 < sF P y + zF P y then k + 1 else sF P y := by
        rw [← hck] at hfm ⊢
        exact if_neg hfm
      rw [if_neg hfm]
      have h137 : ∀ x1 : Int32, x1 = cv (bF P k) → ∃ B', f_X0_joinCourse_137 o (f_X0_joinCourse_30 o f) (nI y) (nI (sF P y)) (nI (zF P y)) (nI (sF P y + zF P y)) (nI k) x1 (nI k) (setB h o B) = some (setB h o B') ∧ (∀ a, a ≠ 15 → a ≠ 16 → B' a = B a) ∧ (∀ i, k ≤ i → i < sF P y + zF P y → B' 15 i = cv (bF P i) ∧ B' 16 i = cv (hF P i)) ∧ ∀ i, i < k ∨ sF P y + zF P y ≤ i → B' 15 i = B 15 i ∧ B' 16 i = B 16 i := fun x1 hx1 => by
        unfold f_X0_joinCourse_137 f_X0_joinCourse_171 f_X0_joinCourse_172
        simp only [nm]
        rw [if_pos (inb_nI (by omega) (by decide)), if_pos (inb_nI (by omega) (by decide)), if_pos (inb_nI (by omega) (by decide)), if_pos (inb_nI (by omega) (by decide)), nI_clamp (by omega), sb_w (by omega), nI_1, sb_w (by omega), sb_w (by omega), sb_w (by omega)]
        by_cases e : zF P y < 3
        · rw [if_neg (show ¬ (3 : Int32) ≤ nI (zF P y) from nI_ge (b := 3) e (by omega))]
          exact fin x1 _ hx1 (by rw [eh, if_pos e]; rfl)
        · rw [if_pos (show (3 : Int32) ≤ nI (zF P y) from nI_le (a := 3) (by omega) (by omega))]
          by_cases e2 : k + 1 < sF P y + zF P y
          · rw [if_neg (nI_ge e2 (by omega))]
            exact fin x1 _ hx1 (by rw [eh, if_neg e, if_pos e2, cv_n (by omega)])
          · rw [if_pos (nI_le (by omega) (by omega))]
            exact fin x1 _ hx1 (by rw [eh, if_neg e, if_neg e2, cv_n (by omega)])
      by_cases e : zF P y < 2
      · rw [if_neg (show ¬ (2 : Int32) ≤ nI (zF P y) from nI_ge (b := 2) e (by omega))]
        exact h137 _ (by rw [eb, if_pos e]; rfl)
      · rw [if_pos (show (2 : Int32) ≤ nI (zF P y) from nI_le (a := 2) (by omega) (by omega))]
        by_cases e2 : k = sF P y
        · rw [if_pos (nI_le (by omega) (by omega)), nI_p (by omega)]
          exact h137 _ (by rw [eb, if_neg e, if_pos e2, cv_n (by omega)])
        · rw [if_neg (nI_ge (by omega) (by omega)), nI_p (by omega)]
          exact h137 _ (by rw [eb, if_neg e, if_neg e2, cv_n (by omega)])
theorem c_joinC (hW : WF P) {y : Nat} (hy : y < mF P) (h4 : B 4 y = P (7 + 3 * y)) (h3 : B 3 2 = nI (aF P)) (h11 : B 11 y = nI (sF P y)) (h5 : B 5 y = P (8 + 3 * y)) : ∃ B', f_X0_joinCourse (setB h o B) o (nI y) = some (setB h o B') ∧ (∀ a, a ≠ 15 → a ≠ 16 → B' a = B a) ∧ (∀ i, sF P y ≤ i → i < sF P y + zF P y → B' 15 i = cv (bF P i) ∧ B' 16 i = cv (hF P i)) ∧ ∀ i, i < sF P y ∨ sF P y + zF P y ≤ i → B' 15 i = B 15 i ∧ B' 16 i = B 16 i := by
  have h60 := hW.a60
  have hm := mF8 hW
  have s := sF_all (P := P) hy
  have z := hW.1.2.2.1 _ hy
  unfold f_X0_joinCourse
  simp only [nm]
  rw [if_pos (inb_nI (by omega) (by decide)), if_pos (inb_nI (by omega) (by decide)), sb_11, sb_5, nI_clamp (by omega), h11, h5, (hW.2.2.2.2.2.2.2 y hy).1, nI_add, show (60 : Int32) = nI 60 from rfl, imin_n (by omega) (by omega), Nat.min_eq_left (by omega)]
  exact c_join30 hW hy (zF P y) KF (sF P y) B h4 h3 (by omega) (Nat.le_refl _) (by have := KF_ge; omega)
end CLS
