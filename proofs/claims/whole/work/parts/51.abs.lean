section ABS
variable {P : Nat → Int32} {L : Nat} {w c : Nat → Int32}
theorem nI_m9 {n : Nat} (h : n < 2 ^ 31) : ¬ nI n = -9 := fun q => by
  have a := nI_toInt h
  rw [q] at a
  have e : (-9 : Int32).toInt = -9 := rfl
  omega
theorem WF.gw (h : WF P) : GW (zF P) (mF P) := h.1
theorem WF.a60 (h : WF P) : aF P ≤ 60 := h.1.2.2.2
theorem cF_lt (h : WF P) {i : Nat} : cF P i < mF P := cRs_lt h.1
theorem cF_lo {i : Nat} : sF P (cF P i) ≤ i := cRs_lo
theorem cF_hi (h : WF P) {i : Nat} (hi : i < aF P) : i < sF P (cF P i) + zF P (cF P i) := cRs_hi h.1 hi
theorem cF_un {i y : Nat} (hy : y < mF P) (h1 : sF P y ≤ i) (h2 : i < sF P y + zF P y) : cF P i = y := cRs_un hy h1 h2
theorem sF_all {y : Nat} (hy : y < mF P) : sF P y + zF P y ≤ aF P := st_all hy
theorem sF_mono {y z : Nat} (h : y ≤ z) : sF P y ≤ sF P z := st_mono h
theorem p1_r (h : WF P) {i : Nat} (hi : i < aF P) (h0 : cF P i ≠ 0) : sF P (cF P i - 1) ≤ p1 P i ∧ p1 P i < sF P (cF P i) := rs1_r h.1 hi h0
theorem p2_r (h : WF P) {i : Nat} (hi : i < aF P) (h0 : cF P i ≠ 0) : sF P (cF P i - 1) ≤ p2 P i ∧ p2 P i < sF P (cF P i) := rs2_r h.1 hi h0
theorem p1_0 {i : Nat} (h0 : cF P i = 0) : p1 P i = 100 := if_pos h0
theorem p2_0 {i : Nat} (h0 : cF P i = 0) : p2 P i = 100 := if_pos h0
theorem nb_b (h : WF P) {j : Nat} (hj : j < aF P) : bF P j = 100 ∨ bF P j + 1 = j ∨ (sF P (cF P j) ≤ bF P j ∧ bF P j < sF P (cF P j) + zF P (cF P j)) := by
  have a := cF_lo (P := P) (i := j)
  have b := cF_hi h hj
  by_cases hf : P (7 + 3 * cF P j) = 2
  · have e : bF P j = if j = 0 then 100 else j - 1 := if_pos hf
    rw [e]
    by_cases e1 : j = 0
    · rw [if_pos e1]; omega
    · rw [if_neg e1]; omega
  · have e : bF P j = if zF P (cF P j) < 2 then 100 else if j = sF P (cF P j) then sF P (cF P j) + zF P (cF P j) - 1 else j - 1 := if_neg hf
    rw [e]
    by_cases e1 : zF P (cF P j) < 2
    · rw [if_pos e1]; omega
    · rw [if_neg e1]
      by_cases e2 : j = sF P (cF P j)
      · rw [if_pos e2]; omega
      · rw [if_neg e2]; omega
theorem nb_h (h : WF P) {j : Nat} (hj : j < aF P) : hF P j = 100 ∨ hF P j = j + 1 ∨ (sF P (cF P j) ≤ hF P j ∧ hF P j < sF P (cF P j) + zF P (cF P j)) := by
  have a := cF_lo (P := P) (i := j)
  have b := cF_hi h hj
  by_cases hf : P (7 + 3 * cF P j) = 2
  · have e : hF P j = if j + 1 < aF P then j + 1 else 100 := if_pos hf
    rw [e]
    by_cases e1 : j + 1 < aF P
    · rw [if_pos e1]; omega
    · rw [if_neg e1]; omega
  · have e : hF P j = if zF P (cF P j) < 3 then 100 else if j + 1 < sF P (cF P j) + zF P (cF P j) then j + 1 else sF P (cF P j) := if_neg hf
    rw [e]
    by_cases e1 : zF P (cF P j) < 3
    · rw [if_pos e1]; omega
    · rw [if_neg e1]
      by_cases e2 : j + 1 < sF P (cF P j) + zF P (cF P j)
      · rw [if_pos e2]; omega
      · rw [if_neg e2]; omega
theorem gB_s {i : Nat} (h : gB P L w c i = true) : i < L ∧ w i = -9 ∧ ¬ c i = 1 := by
  unfold gB sB at h
  simp only [Bool.and_eq_true, decide_eq_true_eq, Bool.not_eq_true', decide_eq_false_iff_not] at h
  exact ⟨h.1.1, h.1.2.1, h.1.2.2⟩
/-- a new block makes none give but itself and those on which it rests -/
theorem gB_lay (hL : L < aF P) {j : Nat} (hj : j < L) (h1 : p1 P L ≠ j) (h2 : p2 P L ≠ j) (hg : gB P (L + 1) w c j = true) : gB P L w c j = true := by
  have sm : ∀ k, sB L w c k = true → sB (L + 1) w c k = true := fun k h => by
    unfold sB at h ⊢
    simp only [Bool.and_eq_true, decide_eq_true_eq] at h ⊢
    exact ⟨by omega, h.2⟩
  have hsn : snN P L w c j ≤ snN P (L + 1) w c j := by
    unfold snN
    have a := sm (bF P j)
    have b := sm (hF P j)
    by_cases e1 : sB L w c (bF P j) = true
    · rw [if_pos e1, if_pos (a e1)]
      by_cases e2 : sB L w c (hF P j) = true
      · rw [if_pos e2, if_pos (b e2)]; exact Nat.le_refl _
      · rw [if_neg e2]; omega
    · rw [if_neg e1]
      by_cases e2 : sB L w c (hF P j) = true
      · rw [if_pos e2, if_pos (b e2)]; omega
      · rw [if_neg e2]; omega
  have hcl : clB P L w c j = true → clB P (L + 1) w c j = true := fun h => by
    unfold clB at h ⊢
    simp only [decide_eq_true_eq] at h ⊢
    rw [cnt_zero] at h ⊢
    intro k hk
    have := h k hk
    unfold xB at this ⊢
    by_cases e : cF P k = cF P j
    · rw [decide_eq_true e, Bool.true_and] at this ⊢
      by_cases e2 : k = j
      · rw [if_pos e2] at this ⊢
        simp only [Bool.not_eq_false', decide_eq_true_eq] at this ⊢
        omega
      · rw [if_neg e2] at this ⊢
        simp only [Bool.not_eq_false'] at this ⊢
        exact sm k this
    · rw [decide_eq_false e, Bool.false_and]
  have hmn : gn P 4 * (L - 1 - j) * gn P 2 / 20 ≤ gn P 4 * (L + 1 - 1 - j) * gn P 2 / 20 := Nat.div_le_div_right (Nat.mul_le_mul_right _ (Nat.mul_le_mul_left _ (by omega)))
  have hho : hoN P L w c j ≤ hoN P (L + 1) w c j := by
    unfold hoN
    have q1 : (if clB P L w c j = true then 3 else 0) ≤ (if clB P (L + 1) w c j = true then 3 else 0) := by
      by_cases e : clB P L w c j = true
      · rw [if_pos e, if_pos (hcl e)]; exact Nat.le_refl _
      · rw [if_neg e]; omega
    have q2 : (if gn P 5 = 2 ∧ j + 1 ≠ L then 1 else 0) ≤ (if gn P 5 = 2 ∧ j + 1 ≠ L + 1 then 1 else 0) := by
      by_cases e : gn P 5 = 2 ∧ j + 1 ≠ L
      · rw [if_pos e, if_pos ⟨e.1, by omega⟩]; exact Nat.le_refl _
      · rw [if_neg e]; omega
    have q3 : min (gn P 0) (gn P 4 * (L - 1 - j) * gn P 2 / 20) ≤ min (gn P 0) (gn P 4 * (L + 1 - 1 - j) * gn P 2 / 20) := by
      generalize gn P 4 * (L - 1 - j) * gn P 2 / 20 = u at hmn ⊢
      generalize gn P 4 * (L + 1 - 1 - j) * gn P 2 / 20 = v at hmn ⊢
      omega
    omega
  have hab : abN P (L + 1) w j = abN P L w j := by
    unfold abN
    refine cnt_congr (fun k hk => ?_)
    unfold abB
    by_cases e : k = L
    · subst e
      rw [decide_eq_false h1, decide_eq_false h2]
      simp
    · have : decide (k < L + 1) = decide (k < L) := by
        by_cases e2 : k < L
        · rw [decide_eq_true e2, decide_eq_true (by omega)]
        · rw [decide_eq_false e2, decide_eq_false (by omega)]
      rw [this]
  have hpu : puN P (L + 1) w c j = puN P L w c j := by unfold puN; rw [hab]
  unfold gB at hg ⊢
  simp only [Bool.and_eq_true, Bool.or_eq_true, decide_eq_true_eq] at hg ⊢
  obtain ⟨g1, g2⟩ := hg
  refine ⟨?_, ?_⟩
  · unfold sB at g1 ⊢
    simp only [Bool.and_eq_true, decide_eq_true_eq] at g1 ⊢
    exact ⟨hj, g1.2⟩
  · rcases g2 with g2 | g2
    · left
      rw [hpu] at g2
      omega
    · right
      exact g2
/-! passes -/
theorem psW_add : ∀ (a b i : Nat) (w : Nat → Int32), psW P L c (a + b) i w = psW P L c b (i + a) (psW P L c a i w) := by
  intro a
  induction a with
  | zero => intro b i w; rw [Nat.zero_add]; rfl
  | succ a ih =>
    intro b i w
    rw [show a + 1 + b = (a + b) + 1 by omega, psW, psW, ih, show i + 1 + a = i + (a + 1) by omega]
theorem psW_id : ∀ (k i : Nat) (w : Nat → Int32), (∀ j, i ≤ j → j < i + k → gB P L w c j = false) → psW P L c k i w = w := by
  intro k
  induction k with
  | zero => intro i w _; rfl
  | succ k ih =>
    intro i w h
    rw [psW, if_neg (by rw [h i (by omega) (by omega)]; decide)]
    exact ih (i + 1) w (fun j a b => h j (by omega) (by omega))
theorem seW_id (hs : stab P L w c) : ∀ n, seW P L c n w = w := by
  intro n
  induction n with
  | zero => rfl
  | succ n ih => rw [seW, psW_id L 0 w (fun j _ h => hs j (by omega))]; exact ih
/-- the reference's pass, with its flag -/
def psM (P : Nat → Int32) (L : Nat) (c : Nat → Int32) : Nat → Nat → (Nat → Int32) → Int32 → (Nat → Int32) × Int32
  | 0, _, w, fl => (w, fl)
  | k + 1, i, w, fl => if gB P L w c i = true then psM P L c k (i + 1) (upd w i (nI (L - 1))) 1 else psM P L c k (i + 1) w fl
theorem psM_1 : ∀ (k i : Nat) (w : Nat → Int32) (fl : Int32), (psM P L c k i w fl).1 = psW P L c k i w := by
  intro k
  induction k with
  | zero => intro i w ag; rfl
  | succ k ih =>
    intro i w ag
    rw [psM, psW]
    by_cases h : gB P L w c i = true
    · rw [if_pos h, if_pos h, ih]
    · rw [if_neg h, if_neg h, ih]
theorem psM_0 : ∀ (k i : Nat) (w : Nat → Int32) (fl : Int32), (psM P L c k i w fl).2 = 0 → fl = 0 ∧ (psM P L c k i w fl).1 = w ∧ ∀ j, i ≤ j → j < i + k → gB P L w c j = false := by
  intro k
  induction k with
  | zero => intro i w fl h; exact ⟨h, rfl, fun j a b => by omega⟩
  | succ k ih =>
    intro i w fl h
    rw [psM] at h ⊢
    by_cases hg : gB P L w c i = true
    · rw [if_pos hg] at h
      exact absurd (ih _ _ _ h).1 (by decide)
    · rw [if_neg hg] at h ⊢
      obtain ⟨a, b, d⟩ := ih _ _ _ h
      refine ⟨a, b, fun j h1 h2 => ?_⟩
      by_cases e : j = i
      · rw [e]; exact Bool.eq_false_iff.mpr hg
      · exact d j (by omega) (by omega)
theorem fB_upd {i : Nat} {x : Int32} {n : Nat} (hx : ¬ x = -9) (hw : w i = -9) (hi : i < n) : cnt (fB (upd w i x)) n = cnt (fB w) n + 1 := by
  refine cnt_upd (j := i) ?_ ?_ (fun k hk => ?_) hi
  · unfold fB; rw [hw]; rfl
  · unfold fB; rw [pk_us, decide_eq_false hx]; rfl
  · unfold fB; rw [pk_un hk]
theorem psM_c (hL : L ≤ 60) : ∀ (k i : Nat) (w : Nat → Int32) (fl : Int32), i + k ≤ L → (fl = 0 ∨ fl = 1) → cnt (fB w) L ≤ cnt (fB (psM P L c k i w fl).1) L ∧ ((psM P L c k i w fl).2 = 0 ∨ ((psM P L c k i w fl).2 = 1 ∧ (fl = 1 ∨ cnt (fB w) L < cnt (fB (psM P L c k i w fl).1) L))) := by
  intro k
  induction k with
  | zero =>
    intro i w fl _ h
    refine ⟨Nat.le_refl _, ?_⟩
    rcases h with h | h
    · left; exact h
    · right; exact ⟨h, Or.inl h⟩
  | succ k ih =>
    intro i w fl hk h
    rw [psM]
    by_cases hg : gB P L w c i = true
    · rw [if_pos hg]
      obtain ⟨a, b⟩ := ih (i + 1) (upd w i (nI (L - 1))) 1 (by omega) (Or.inr rfl)
      have e := fB_upd (w := w) (i := i) (x := nI (L - 1)) (n := L) (nI_m9 (by omega)) (gB_s hg).2.1 (by omega)
      refine ⟨by omega, ?_⟩
      rcases b with b | b
      · left; exact b
      · right; exact ⟨b.1, Or.inr (by omega)⟩
    · rw [if_neg hg]
      exact ih (i + 1) w fl (by omega) h
def seM (P : Nat → Int32) (L : Nat) (c : Nat → Int32) : Nat → Int32 → (Nat → Int32) → Option (Nat → Int32)
  | 0, _, _ => none
  | n + 1, fl, w => if fl = 0 then some w else seM P L c n (psM P L c L 0 w 0).2 (psM P L c L 0 w 0).1
theorem seM_eq (hL : L ≤ 60) : ∀ (d n : Nat) (w : Nat → Int32), L - cnt (fB w) L ≤ d → d + 2 ≤ n → seM P L c n 1 w = some (seW P L c (d + 1) w) ∧ stab P L (seW P L c (d + 1) w) c := by
  intro d
  induction d with
  | zero =>
    intro n w hd hn
    obtain ⟨n, rfl⟩ : ∃ g, n = g + 1 + 1 := ⟨n - 2, by omega⟩
    rw [seM, if_neg (by decide)]
    obtain ⟨a, b⟩ := psM_c (P := P) (c := c) hL L 0 w 0 (by omega) (Or.inl rfl)
    have := cnt_le (fB (psM P L c L 0 w 0).1) L
    rcases b with b | ⟨b, b2⟩
    · obtain ⟨-, x, y⟩ := psM_0 _ _ _ _ b
      have hs : stab P L w c := fun j hj => y j (by omega) (by omega)
      rw [seM, if_pos b, x, seW_id hs]
      exact ⟨rfl, hs⟩
    · rcases b2 with b2 | b2
      · exact absurd b2 (by decide)
      · omega
  | succ d ih =>
    intro n w hd hn
    obtain ⟨n, rfl⟩ : ∃ g, n = g + 1 + 1 := ⟨n - 2, by omega⟩
    rw [seM, if_neg (by decide)]
    obtain ⟨a, b⟩ := psM_c (P := P) (c := c) hL L 0 w 0 (by omega) (Or.inl rfl)
    rcases b with b | ⟨b, b2⟩
    · obtain ⟨-, x, y⟩ := psM_0 _ _ _ _ b
      have hs : stab P L w c := fun j hj => y j (by omega) (by omega)
      rw [seM, if_pos b, x, seW_id hs]
      exact ⟨rfl, hs⟩
    · rcases b2 with b2 | b2
      · exact absurd b2 (by decide)
      · have q := ih (n + 1) (psM P L c L 0 w 0).1 (by omega) (by omega)
        rw [b, seW, ← psM_1 L 0 w 0]
        exact q
theorem seM_SE (hL : L ≤ 60) (w : Nat → Int32) : seM P L c KF 1 w = some (SE P L c w) := (seM_eq hL 60 KF w (by omega) (by decide)).1
theorem SE_stab (hL : L ≤ 60) (w : Nat → Int32) : stab P L (SE P L c w) c := (seM_eq hL 60 KF w (by omega) (by decide)).2
theorem psW_v (hL : L ≤ 60) : ∀ (k i : Nat) (w : Nat → Int32) (j : Nat), psW P L c k i w j = w j ∨ (w j = -9 ∧ j < L ∧ ¬ c j = 1 ∧ psW P L c k i w j = nI (L - 1)) := by
  intro k
  induction k with
  | zero => intro i w j; left; rfl
  | succ k ih =>
    intro i w j
    rw [psW]
    by_cases hg : gB P L w c i = true
    · rw [if_pos hg]
      obtain ⟨g1, g2, g3⟩ := gB_s hg
      rcases ih (i + 1) (upd w i (nI (L - 1))) j with h | h
      · by_cases e : j = i
        · subst e
          rw [pk_us] at h
          right; exact ⟨g2, g1, g3, h⟩
        · rw [pk_un e] at h
          left; exact h
      · by_cases e : j = i
        · subst e
          rw [pk_us] at h
          exact absurd h.1 (nI_m9 (by omega))
        · rw [pk_un e] at h
          right; exact h
    · rw [if_neg hg]
      exact ih (i + 1) w j
theorem seW_v (hL : L ≤ 60) : ∀ (n : Nat) (w : Nat → Int32) (j : Nat), seW P L c n w j = w j ∨ (w j = -9 ∧ j < L ∧ ¬ c j = 1 ∧ seW P L c n w j = nI (L - 1)) := by
  intro n
  induction n with
  | zero => intro w j; left; rfl
  | succ n ih =>
    intro w j
    rw [seW]
    rcases psW_v (P := P) (c := c) hL L 0 w j with h | h
    · rcases ih (psW P L c L 0 w) j with h2 | h2
      · left; rw [h2, h]
      · right; rw [h] at h2; exact h2
    · rcases ih (psW P L c L 0 w) j with h2 | h2
      · right; exact ⟨h.1, h.2.1, h.2.2.1, by rw [h2]; exact h.2.2.2⟩
      · rw [h.2.2.2] at h2
        exact absurd h2.1 (nI_m9 (by omega))
theorem SE_v (hL : L ≤ 60) (w : Nat → Int32) (j : Nat) : SE P L c w j = w j ∨ (w j = -9 ∧ j < L ∧ ¬ c j = 1 ∧ SE P L c w j = nI (L - 1)) := seW_v hL 61 w j
end ABS
