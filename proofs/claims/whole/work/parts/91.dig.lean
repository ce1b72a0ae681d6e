/-! ===== digest ===== -/
def EE (h : TT) (x : Int64) : TT := wrl (lk0 h) 147 28 x
section INV
variable {h h' g s : TT} {P : Nat → Int32} {L : Nat} {w c : Nat → Int32} {x : Int64}
theorem ee_r {i : Nat} (hi : i ≠ 147) : (EE h x).1 i = h.1 i := lk0_r hi
theorem ee_x : (EE h x).2 147 28 = x := by
  unfold EE
  rw [wrl_2, if_pos ⟨rfl, rfl⟩]
theorem ee_mix {y : Int64} : f_X8_mix (EE h x) y = some (EE h (31 * x + y)) := by
  unfold f_X8_mix
  rw [nm_eq, ee_x]
  congr 1
  refine Prod.ext rfl (funext fun a => funext fun j => ?_)
  unfold EE
  rw [wrl_2, wrl_2, wrl_2]
  by_cases e : a = 147 ∧ j = 28
  · rw [if_pos e, if_pos e]
  · rw [if_neg e, if_neg e, if_neg e]
theorem d_txt1 (R : R_txt h) {r : Nat} (hr : r < 4) : ∀ (d f f' j : Nat) (x : Int64), d < f → d < f' → j + d = 80 → ∃ x', (∀ k, f_X7_digest_177 h k f x (nI r) (nI j) = k x' (nI (r + 1))) ∧ ∀ k, f_X8_digest_113 k f' (nI r) (nI j) (EE h x) = k (nI (r + 1)) (EE h x') := by
  obtain ⟨r1, r2, r3⟩ := R r hr
  intro d
  induction d with
  | zero =>
    intro f f' j x hf hf' hj
    obtain ⟨f, rfl⟩ : ∃ g, f = g + 1 := ⟨f - 1, by omega⟩
    obtain ⟨f', rfl⟩ : ∃ g, f' = g + 1 := ⟨f' - 1, by omega⟩
    obtain rfl : j = 80 := by omega
    have le : h.1 14 r ≤ nI 80 := by
      rcases r2 with r2 | ⟨n, hn, r2⟩
      · rw [r2]; decide
      · rw [r2]; exact nI_le hn (by omega)
    refine ⟨x, fun k => ?_, fun k => ?_⟩
    · rw [f_X7_digest_177, if_pos (inb_nI hr (by decide)), nI_clamp (by omega), if_pos le, nI_1]
    · rw [f_X8_digest_113, if_pos (inb_nI hr (by decide)), nI_clamp (by omega), ee_r (by omega), ← r1, if_pos le, nI_1]
  | succ d ih =>
    intro f f' j x hf hf' hj
    obtain ⟨f, rfl⟩ : ∃ g, f = g + 1 := ⟨f - 1, by omega⟩
    obtain ⟨f', rfl⟩ : ∃ g, f' = g + 1 := ⟨f' - 1, by omega⟩
    by_cases le : h.1 14 r ≤ nI j
    · refine ⟨x, fun k => ?_, fun k => ?_⟩
      · rw [f_X7_digest_177, if_pos (inb_nI hr (by decide)), nI_clamp (by omega), if_pos le, nI_1]
      · rw [f_X8_digest_113, if_pos (inb_nI hr (by decide)), nI_clamp (by omega), ee_r (by omega), ← r1, if_pos le, nI_1]
    · obtain ⟨x', q1, q2⟩ := ih f f' (j + 1) (31 * x + (h.1 (10 + r) j).toInt64) (by omega) (by omega) (by omega)
      refine ⟨x', fun k => ?_, fun k => ?_⟩
      · rw [f_X7_digest_177, if_pos (inb_nI hr (by decide)), nI_clamp (show r < 2 ^ 31 by omega), if_neg le, if_pos (inb_nI hr (by decide)), if_pos (inb_nI (by omega) (by decide)), nm_eq, nI_clamp (show j < 2 ^ 31 by omega), nI_1]
        exact q1 k
      · rw [f_X8_digest_113, if_pos (inb_nI hr (by decide)), nI_clamp (show r < 2 ^ 31 by omega), ee_r (by omega), ← r1, if_neg le]
        unfold f_X8_byteAt
        rw [if_pos (inb_nI hr (by decide)), nI_clamp (show r < 2 ^ 31 by omega), ee_r (show 152 ≠ 147 by omega), ← r1, if_neg le, k80, if_pos (inb_nI (by omega) (by decide)), nI_clamp (by omega), ee_r (show 153 ≠ 147 by omega), ← r3 j (by omega), Option.bind_some, ee_mix, Option.bind_some, nI_1]
        exact q2 k
theorem d_row1 (R : R_rows h) {r : Nat} (hr : r < 6) : ∀ (d f f' j : Nat) (x : Int64), d < f → d < f' → j + d = 60 → ∃ x', (∀ k, f_X7_digest_113 h k f x (nI r) (nI j) = k x' (nI (r + 1))) ∧ ∀ k, f_X8_digest_60 k f' (nI r) (nI j) (EE h x) = k (nI (r + 1)) (EE h x') := by
  obtain ⟨r1, r2, r3⟩ := R r hr
  intro d
  induction d with
  | zero =>
    intro f f' j x hf hf' hj
    obtain ⟨f, rfl⟩ : ∃ g, f = g + 1 := ⟨f - 1, by omega⟩
    obtain ⟨f', rfl⟩ : ∃ g, f' = g + 1 := ⟨f' - 1, by omega⟩
    obtain rfl : j = 60 := by omega
    have le : h.1 8 r ≤ nI 60 := by
      rcases r2 with r2 | ⟨n, hn, r2⟩
      · rw [r2]; decide
      · rw [r2]; exact nI_le hn (by omega)
    refine ⟨x, fun k => ?_, fun k => ?_⟩
    · rw [f_X7_digest_113, if_pos (inb_nI hr (by decide)), nI_clamp (by omega), if_pos le, nI_1]
    · rw [f_X8_digest_60, if_pos (inb_nI hr (by decide)), nI_clamp (by omega), ee_r (by omega), ← r1, if_pos le, nI_1]
  | succ d ih =>
    intro f f' j x hf hf' hj
    obtain ⟨f, rfl⟩ : ∃ g, f = g + 1 := ⟨f - 1, by omega⟩
    obtain ⟨f', rfl⟩ : ∃ g, f' = g + 1 := ⟨f' - 1, by omega⟩
    by_cases le : h.1 8 r ≤ nI j
    · refine ⟨x, fun k => ?_, fun k => ?_⟩
      · rw [f_X7_digest_113, if_pos (inb_nI hr (by decide)), nI_clamp (by omega), if_pos le, nI_1]
      · rw [f_X8_digest_60, if_pos (inb_nI hr (by decide)), nI_clamp (by omega), ee_r (by omega), ← r1, if_pos le, nI_1]
    · obtain ⟨x', q1, q2⟩ := ih f f' (j + 1) (31 * x + (h.1 (2 + r) j).toInt64) (by omega) (by omega) (by omega)
      refine ⟨x', fun k => ?_, fun k => ?_⟩
      · rw [f_X7_digest_113, if_pos (inb_nI hr (by decide)), nI_clamp (show r < 2 ^ 31 by omega), if_neg le, if_pos (inb_nI hr (by decide)), if_pos (inb_nI (by omega) (by decide)), nm_eq, nI_clamp (show j < 2 ^ 31 by omega), nI_1]
        exact q1 k
      · rw [f_X8_digest_60, if_pos (inb_nI hr (by decide)), nI_clamp (show r < 2 ^ 31 by omega), ee_r (by omega), ← r1, if_neg le]
        unfold f_X8_rowAt
        rw [k60, if_pos (inb_nI (by omega) (by decide)), nI_clamp (by omega), ee_r (show 150 ≠ 147 by omega), ← r3 j (by omega), Option.bind_some, ee_mix, Option.bind_some, nI_1]
        exact q2 k
theorem d_txt (R : R_txt h) : ∀ (d f f' i : Nat) (x : Int64), d < f → d < f' → i + d = 4 → ∃ y, f_X7_digest_155 h f x (nI i) = some y ∧ f_X8_digest_95 f' (nI i) (EE h x) = some (y, EE h y) := by
  intro d
  induction d with
  | zero =>
    intro f f' i x hf hf' hi
    obtain ⟨f, rfl⟩ : ∃ g, f = g + 1 := ⟨f - 1, by omega⟩
    obtain ⟨f', rfl⟩ : ∃ g, f' = g + 1 := ⟨f' - 1, by omega⟩
    obtain rfl : i = 4 := by omega
    refine ⟨x, ?_, ?_⟩
    · rw [f_X7_digest_155, if_pos (show (4 : Int32) ≤ nI 4 by decide)]
    · rw [f_X8_digest_95, if_pos (show (4 : Int32) ≤ nI 4 by decide), ee_x]
  | succ d ih =>
    intro f f' i x hf hf' hi
    obtain ⟨f, rfl⟩ : ∃ g, f = g + 1 := ⟨f - 1, by omega⟩
    obtain ⟨f', rfl⟩ : ∃ g, f' = g + 1 := ⟨f' - 1, by omega⟩
    obtain ⟨x', q1, q2⟩ := d_txt1 R (r := i) (by omega) 80 KF KF 0 (31 * x + (h.1 14 i).toInt64) (by decide) (by decide) (by omega)
    obtain ⟨y, q3, q4⟩ := ih f f' (i + 1) x' (by omega) (by omega) (by omega)
    refine ⟨y, ?_, ?_⟩
    · rw [f_X7_digest_155, if_neg (show ¬ (4 : Int32) ≤ nI i from nI_ge (b := 4) (by omega) (by omega)), if_pos (inb_nI (by omega) (by decide)), nm_eq, nI_clamp (by omega), show (0 : Int32) = nI 0 from rfl, q1]
      exact q3
    · rw [f_X8_digest_95, if_neg (show ¬ (4 : Int32) ≤ nI i from nI_ge (b := 4) (by omega) (by omega)), if_pos (inb_nI (by omega) (by decide)), nI_clamp (by omega), ee_r (by omega), ← (R i (by omega)).1, ee_mix, Option.bind_some, show (0 : Int32) = nI 0 from rfl, q2]
      exact q4
theorem d_row (R : R_rows h) (R2 : R_txt h) : ∀ (d f f' i : Nat) (x : Int64), d < f → d < f' → i + d = 6 → ∃ y, f_X7_digest_90 h f x (nI i) = some y ∧ f_X8_digest_41 f' (nI i) (EE h x) = some (y, EE h y) := by
  intro d
  induction d with
  | zero =>
    intro f f' i x hf hf' hi
    obtain ⟨f, rfl⟩ : ∃ g, f = g + 1 := ⟨f - 1, by omega⟩
    obtain ⟨f', rfl⟩ : ∃ g, f' = g + 1 := ⟨f' - 1, by omega⟩
    obtain rfl : i = 6 := by omega
    obtain ⟨y, q1, q2⟩ := d_txt R2 4 KF KF 0 x (by decide) (by decide) (by omega)
    refine ⟨y, ?_, ?_⟩
    · rw [f_X7_digest_90, if_pos (show (6 : Int32) ≤ nI 6 by decide), show (0 : Int32) = nI 0 from rfl, q1]
    · rw [f_X8_digest_41, if_pos (show (6 : Int32) ≤ nI 6 by decide), show (0 : Int32) = nI 0 from rfl, q2]
  | succ d ih =>
    intro f f' i x hf hf' hi
    obtain ⟨f, rfl⟩ : ∃ g, f = g + 1 := ⟨f - 1, by omega⟩
    obtain ⟨f', rfl⟩ : ∃ g, f' = g + 1 := ⟨f' - 1, by omega⟩
    obtain ⟨x', q1, q2⟩ := d_row1 R (r := i) (by omega) 60 KF KF 0 (31 * x + (h.1 8 i).toInt64) (by decide) (by decide) (by omega)
    obtain ⟨y, q3, q4⟩ := ih f f' (i + 1) x' (by omega) (by omega) (by omega)
    refine ⟨y, ?_, ?_⟩
    · rw [f_X7_digest_90, if_neg (show ¬ (6 : Int32) ≤ nI i from nI_ge (b := 6) (by omega) (by omega)), if_pos (inb_nI (by omega) (by decide)), nm_eq, nI_clamp (by omega), show (0 : Int32) = nI 0 from rfl, q1]
      exact q3
    · rw [f_X8_digest_41, if_neg (show ¬ (6 : Int32) ≤ nI i from nI_ge (b := 6) (by omega) (by omega)), if_pos (inb_nI (by omega) (by decide)), nI_clamp (by omega), ee_r (by omega), ← (R i (by omega)).1, ee_mix, Option.bind_some, show (0 : Int32) = nI 0 from rfl, q2]
      exact q4
end INV
