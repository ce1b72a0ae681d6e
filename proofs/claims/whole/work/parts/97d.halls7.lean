/-! ===== halls: the reference clears the row ===== -/
theorem m_292 {r G : Nat} {x4 : Int32} (hr : r < 6) : ∀ (d f i : Nat) (s : TT), i + d = 60 → d < f → f_X8_halls_292 f (nI G) (nI r) x4 (nI i) s = f_X8_halls_328 KF (nI r) x4 (nI G) x4 0 (wrow s 150 (fun j => if 60 * r + i ≤ j ∧ j < 60 * r + 60 then 0 else s.1 150 j)) := by
  intro d
  induction d with
  | zero =>
    intro f i s hi hf
    obtain ⟨f, rfl⟩ : ∃ g, f = g + 1 := ⟨f - 1, by omega⟩
    obtain rfl : i = 60 := by omega
    rw [f_X8_halls_292, if_pos (show (60 : Int32) ≤ nI 60 by decide)]
    congr 1
    refine Prod.ext (funext fun a => funext fun j => ?_) rfl
    rw [wrow_1]
    by_cases z : a = 150
    · rw [if_pos z, if_neg (by omega), z]
    · rw [if_neg z]
  | succ d ih =>
    intro f i s hi hf
    obtain ⟨f, rfl⟩ : ∃ g, f = g + 1 := ⟨f - 1, by omega⟩
    rw [f_X8_halls_292, if_neg (show ¬ (60 : Int32) ≤ nI i from nI_ge (b := 60) (by omega) (by omega)), k60, if_pos (inb_nI (by omega) (by decide)), nI_clamp (by omega), nm_eq, nI_1, ih f (i + 1) _ (by omega) (by omega)]
    congr 1
    refine Prod.ext (funext fun a => funext fun j => ?_) rfl
    rw [wrow_1, wrow_1]
    by_cases z : a = 150
    · rw [if_pos z, if_pos z, wr_1]
      by_cases y : 60 * r + (i + 1) ≤ j ∧ j < 60 * r + 60
      · rw [if_pos y, if_pos (by omega)]
      · rw [if_neg y]
        by_cases y2 : j = 60 * r + i
        · rw [if_pos ⟨rfl, y2⟩, if_pos (by omega)]
        · rw [if_neg (fun w => y2 w.2), if_neg (by omega)]
    · rw [if_neg z, if_neg z, wr_1, if_neg (fun w => z w.1)]
