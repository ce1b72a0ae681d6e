section IX
variable {X : TT → Prop}
theorem m1_neg : ¬ (0 : Int32) ≤ -1 := by decide
theorem n6 {r : Nat} (hr : r < 6) : (nI r).toNatClampNeg = r := nI_clamp (by omega)
/-- ROW r is missing, or has n places -/
theorem rcase {h : TT} (hR : R_rows h) {r : Nat} (hr : r < 6) : (h.1 8 r = -1 ∧ h.1 149 r = -1) ∨ ∃ n, n ≤ 60 ∧ h.1 8 r = nI n ∧ h.1 149 r = nI n := by
  obtain ⟨a, b, -⟩ := hR r hr
  rcases b with b | ⟨n, hn, b⟩
  · exact Or.inl ⟨b, by rw [← a]; exact b⟩
  · exact Or.inr ⟨n, hn, b, by rw [← a]; exact b⟩
theorem tcase {h : TT} (hR : R_txt h) {r : Nat} (hr : r < 4) : (h.1 14 r = -1 ∧ h.1 152 r = -1) ∨ ∃ n, n ≤ 80 ∧ h.1 14 r = nI n ∧ h.1 152 r = nI n := by
  obtain ⟨a, b, -⟩ := hR r hr
  rcases b with b | ⟨n, hn, b⟩
  · exact Or.inl ⟨b, by rw [← a]; exact b⟩
  · exact Or.inr ⟨n, hn, b, by rw [← a]; exact b⟩
theorem in_pred {x : Int32} {n : Nat} (hn : n < 2 ^ 31) : (0 ≤ x ∧ x ≤ nI n - 1) ↔ (0 ≤ x ∧ x < nI n) := le_pred (Or.inl (nI_pos' hn))
theorem lt_n {j n : Nat} (hj : j < n) (hn : n < 2 ^ 31) : 0 ≤ nI j ∧ nI j < nI n := ⟨nI_pos' (by omega), nI_lt hj hn⟩
/-- place i of ROW r is v in both -/
theorem inv_lay (hX : FrX X) {h : TT} (hI : InvX X h) {r i : Nat} (hr : r < 6) (hi : i < 60) {v u : Int32} : InvX X (wr (wr (wr (wr h (2 + r) i v) 0 13 u) 150 (60 * r + i) v) 147 2 u) := by
  obtain ⟨h1, h2, h3, h4, h5, h6⟩ := hI
  refine ⟨?_, ⟨?_, fun k hk => ?_⟩, ?_, fun q hq => ?_, R_txt_fr h5 (fun i hi => ?_), hX _ _ h6 (fun i hi => ?_)⟩
  · unfold R_told
    simp [wr_1]
  · simp [wr_1, show ¬ 0 = 2 + r by omega, show ¬ 147 = 2 + r by omega]
    exact h2.1
  · simp [wr_1, show ¬ 146 = 2 + r by omega, show ¬ 148 = 2 + r by omega]
    exact h2.2 k hk
  · exact h3
  · obtain ⟨a, b, c⟩ := h4 q hq
    have e8 : (wr (wr (wr (wr h (2 + r) i v) 0 13 u) 150 (60 * r + i) v) 147 2 u).1 8 = h.1 8 := by rw [wr_row (by omega), wr_row (by omega), wr_row (by omega), wr_row (by omega)]
    have e9 : (wr (wr (wr (wr h (2 + r) i v) 0 13 u) 150 (60 * r + i) v) 147 2 u).1 149 = h.1 149 := by rw [wr_row (by omega), wr_row (by omega), wr_row (by omega), wr_row (by omega)]
    rw [e8, e9]
    refine ⟨a, b, fun j hj => ?_⟩
    have e := c j hj
    simp only [wr_1]
    by_cases e1 : q = r ∧ j = i
    · obtain ⟨rfl, rfl⟩ := e1
      simp [show ¬ 2 + q = 147 by omega, show ¬ 2 + q = 150 by omega]
    · have e2 : ¬ (2 + q = 2 + r ∧ j = i) := by omega
      have e3 : ¬ (60 * q + j = 60 * r + i) := by omega
      simp [e2, e3, show ¬ 2 + q = 147 by omega, show ¬ 2 + q = 150 by omega, show ¬ 150 = 2 + r by omega]
      rw [if_neg e1]
      exact e
  · rw [wr_row (by omega), wr_row (by omega), wr_row (by omega), wr_row (by omega)]
  · have := SX_no hi
    rw [wr_row (by omega), wr_row (by omega), wr_row (by omega), wr_row (by omega)]
theorem st_lay (hX : FrX X) : ST_lay (InvX X) := by
  intro h hI x1 x2 x3
  rcases place x1 6 (by decide) with ⟨r, hr, rfl⟩ | hb
  · rcases rcase hI.2.2.2.1 hr with ⟨a1, a2⟩ | ⟨n, hn, a1, a2⟩
    · have c1 : f_X7_lay h (nI r) x2 x3 = some (-3, hFind h 1) := by
        unfold f_X7_lay
        rw [f_below, Option.bind_some, if_pos (lt6 hr).1, if_neg (by decide), if_pos (inb_nI hr (by decide)), n6 hr, a1, if_neg m1_neg]
        exact fm_find h (by decide) rfl
      have c2 : f_X8_lay (hFind h 1) (nI r) x2 x3 = some (-3, hMeet (hFind h 1) 1) := by
        unfold f_X8_lay
        have e : (hFind h 1).1 149 r = -1 := by simp [hFind, wr_1, a2]
        rw [f_isRow, Option.bind_some, if_pos (lt6 hr).2, if_neg (by decide), if_pos (inb_nI hr (by decide)), n6 hr, e, if_neg m1_neg]
        exact fm_meet _ (by decide) rfl
      exact ⟨_, _, _, c1, c2, inv_find hX hI (by decide)⟩
    · rcases place x2 n (by omega) with ⟨i, hi, rfl⟩ | hq
      · have c1 : f_X7_lay h (nI r) (nI i) x3 = some (1, wr (wr h (2 + r) i x3) 0 13 (h.1 (2 + r) i)) := by
          unfold f_X7_lay
          rw [f_below, Option.bind_some, if_pos (lt6 hr).1, if_neg (by decide), if_pos (inb_nI hr (by decide)), n6 hr, a1, if_pos (nI_pos' (by omega)), if_pos (inb_nI hr (by decide)), f_below, Option.bind_some, if_pos (lt_n hi (by omega)), if_neg (by decide), if_pos (inb_nI hr (by decide)), if_pos (inb_nI (by omega) (by decide)), nI_clamp (by omega)]
          simp only [nm]
          rw [if_pos (inb_nI hr (by decide)), if_pos (inb_nI (by omega) (by decide)), f_tell]
          rfl
        have c2 : f_X8_lay (wr (wr h (2 + r) i x3) 0 13 (h.1 (2 + r) i)) (nI r) (nI i) x3 = some (1, wr (wr (wr (wr h (2 + r) i x3) 0 13 (h.1 (2 + r) i)) 150 (60 * r + i) x3) 147 2 (h.1 (2 + r) i)) := by
          unfold f_X8_lay f_X8_rowAt
          have e : (wr (wr h (2 + r) i x3) 0 13 (h.1 (2 + r) i)).1 149 r = nI n := by simp [wr_1, a2, show ¬ 149 = 2 + r by omega]
          have e2 : (wr (wr h (2 + r) i x3) 0 13 (h.1 (2 + r) i)).1 150 (60 * r + i) = h.1 (2 + r) i := by
            simp [wr_1, show ¬ 150 = 2 + r by omega]
            exact ((hI.2.2.2.1 r hr).2.2 i (by omega)).symm
          rw [f_isRow, Option.bind_some, if_pos (lt6 hr).2, if_neg (by decide), if_pos (inb_nI hr (by decide)), n6 hr, e, if_pos (nI_pos' (by omega)), if_pos (inb_nI hr (by decide)), f_in, Option.bind_some, if_pos ((in_pred (by omega)).mpr (lt_n hi (by omega))), if_neg (by decide), k60, if_pos (inb_nI (by omega) (by decide)), Option.bind_some, if_pos (inb_nI (by omega) (by decide)), nI_clamp (by omega), e2]
          rfl
        exact ⟨_, _, _, c1, c2, inv_lay hX hI hr (by omega)⟩
      · have c1 : f_X7_lay h (nI r) x2 x3 = some (-3, hFind h 2) := by
          unfold f_X7_lay
          rw [f_below, Option.bind_some, if_pos (lt6 hr).1, if_neg (by decide), if_pos (inb_nI hr (by decide)), n6 hr, a1, if_pos (nI_pos' (by omega)), if_pos (inb_nI hr (by decide)), f_below, Option.bind_some, if_neg hq, if_pos rfl]
          exact fm_find h (by decide) rfl
        have c2 : f_X8_lay (hFind h 2) (nI r) x2 x3 = some (-3, hMeet (hFind h 2) 2) := by
          unfold f_X8_lay
          have e : (hFind h 2).1 149 r = nI n := by simp [hFind, wr_1, a2]
          rw [f_isRow, Option.bind_some, if_pos (lt6 hr).2, if_neg (by decide), if_pos (inb_nI hr (by decide)), n6 hr, e, if_pos (nI_pos' (by omega)), if_pos (inb_nI hr (by decide)), f_in, Option.bind_some, if_neg (fun z => hq ((in_pred (by omega)).mp z)), if_pos rfl]
          exact fm_meet _ (by decide) rfl
        exact ⟨_, _, _, c1, c2, inv_find hX hI (by decide)⟩
  · have c1 : f_X7_lay h x1 x2 x3 = some (-1, h) := by
      unfold f_X7_lay
      rw [f_below, Option.bind_some, if_neg (not_lt6 hb).1, if_pos rfl]
    have c2 : f_X8_lay h x1 x2 x3 = some (-1, h) := by
      unfold f_X8_lay
      rw [f_isRow, Option.bind_some, if_neg (not_lt6 hb).2, if_pos rfl]
    exact ⟨_, _, _, c1, c2, hI⟩
theorem st_at (hX : FrX X) : ST_at (InvX X) := by
  intro h hI x1 x2
  rcases place x1 6 (by decide) with ⟨r, hr, rfl⟩ | hb
  · rcases rcase hI.2.2.2.1 hr with ⟨a1, a2⟩ | ⟨n, hn, a1, a2⟩
    · have c1 : f_X7_at h (nI r) x2 = some (-3, hFind h 1) := by
        unfold f_X7_at
        rw [f_below, Option.bind_some, if_pos (lt6 hr).1, if_neg (by decide), if_pos (inb_nI hr (by decide)), n6 hr, a1, if_neg m1_neg]
        exact fm_find h (by decide) rfl
      have c2 : f_X8_at (hFind h 1) (nI r) x2 = some (-3, hMeet (hFind h 1) 1) := by
        unfold f_X8_at
        have e : (hFind h 1).1 149 r = -1 := by simp [hFind, wr_1, a2]
        rw [f_isRow, Option.bind_some, if_pos (lt6 hr).2, if_neg (by decide), if_pos (inb_nI hr (by decide)), n6 hr, e, if_neg m1_neg]
        exact fm_meet _ (by decide) rfl
      exact ⟨_, _, _, c1, c2, inv_find hX hI (by decide)⟩
    · rcases place x2 n (by omega) with ⟨i, hi, rfl⟩ | hq
      · have c1 : f_X7_at h (nI r) (nI i) = some (1, wr h 0 13 (h.1 (2 + r) i)) := by
          unfold f_X7_at
          rw [f_below, Option.bind_some, if_pos (lt6 hr).1, if_neg (by decide), if_pos (inb_nI hr (by decide)), n6 hr, a1, if_pos (nI_pos' (by omega)), if_pos (inb_nI hr (by decide)), f_below, Option.bind_some, if_pos (lt_n hi (by omega)), if_neg (by decide), if_pos (inb_nI hr (by decide)), if_pos (inb_nI (by omega) (by decide)), nI_clamp (by omega), f_tell]
          rfl
        have c2 : f_X8_at (wr h 0 13 (h.1 (2 + r) i)) (nI r) (nI i) = some (1, wr (wr h 0 13 (h.1 (2 + r) i)) 147 2 (h.1 (2 + r) i)) := by
          unfold f_X8_at f_X8_rowAt
          have e : (wr h 0 13 (h.1 (2 + r) i)).1 149 r = nI n := by simp [wr_1, a2]
          have e2 : (wr h 0 13 (h.1 (2 + r) i)).1 150 (60 * r + i) = h.1 (2 + r) i := by
            simp [wr_1]
            exact ((hI.2.2.2.1 r hr).2.2 i (by omega)).symm
          rw [f_isRow, Option.bind_some, if_pos (lt6 hr).2, if_neg (by decide), if_pos (inb_nI hr (by decide)), n6 hr, e, if_pos (nI_pos' (by omega)), if_pos (inb_nI hr (by decide)), f_in, Option.bind_some, if_pos ((in_pred (by omega)).mpr (lt_n hi (by omega))), if_neg (by decide), k60, if_pos (inb_nI (by omega) (by decide)), Option.bind_some, nI_clamp (by omega), e2]
          rfl
        exact ⟨_, _, _, c1, c2, inv_tell hX hI⟩
      · have c1 : f_X7_at h (nI r) x2 = some (-3, hFind h 2) := by
          unfold f_X7_at
          rw [f_below, Option.bind_some, if_pos (lt6 hr).1, if_neg (by decide), if_pos (inb_nI hr (by decide)), n6 hr, a1, if_pos (nI_pos' (by omega)), if_pos (inb_nI hr (by decide)), f_below, Option.bind_some, if_neg hq, if_pos rfl]
          exact fm_find h (by decide) rfl
        have c2 : f_X8_at (hFind h 2) (nI r) x2 = some (-3, hMeet (hFind h 2) 2) := by
          unfold f_X8_at
          have e : (hFind h 2).1 149 r = nI n := by simp [hFind, wr_1, a2]
          rw [f_isRow, Option.bind_some, if_pos (lt6 hr).2, if_neg (by decide), if_pos (inb_nI hr (by decide)), n6 hr, e, if_pos (nI_pos' (by omega)), if_pos (inb_nI hr (by decide)), f_in, Option.bind_some, if_neg (fun z => hq ((in_pred (by omega)).mp z)), if_pos rfl]
          exact fm_meet _ (by decide) rfl
        exact ⟨_, _, _, c1, c2, inv_find hX hI (by decide)⟩
  · have c1 : f_X7_at h x1 x2 = some (-1, h) := by
      unfold f_X7_at
      rw [f_below, Option.bind_some, if_neg (not_lt6 hb).1, if_pos rfl]
    have c2 : f_X8_at h x1 x2 = some (-1, h) := by
      unfold f_X8_at
      rw [f_isRow, Option.bind_some, if_neg (not_lt6 hb).2, if_pos rfl]
    exact ⟨_, _, _, c1, c2, hI⟩
theorem st_tear (hX : FrX X) : ST_tear (InvX X) := by
  intro h hI x1
  rcases place x1 6 (by decide) with ⟨r, hr, rfl⟩ | hb
  · rcases rcase hI.2.2.2.1 hr with ⟨a1, a2⟩ | ⟨n, hn, a1, a2⟩
    · have c1 : f_X7_tear h (nI r) = some (-3, hFind h 1) := by
        unfold f_X7_tear
        rw [f_below, Option.bind_some, if_pos (lt6 hr).1, if_neg (by decide), if_pos (inb_nI hr (by decide)), n6 hr, a1, if_neg m1_neg]
        exact fm_find h (by decide) rfl
      have c2 : f_X8_tear (hFind h 1) (nI r) = some (-3, hMeet (hFind h 1) 1) := by
        unfold f_X8_tear
        have e : (hFind h 1).1 149 r = -1 := by simp [hFind, wr_1, a2]
        rw [f_isRow, Option.bind_some, if_pos (lt6 hr).2, if_neg (by decide), if_pos (inb_nI hr (by decide)), n6 hr, e, if_neg m1_neg]
        exact fm_meet _ (by decide) rfl
      exact ⟨_, _, _, c1, c2, inv_find hX hI (by decide)⟩
    · have c1 : f_X7_tear h (nI r) = some (1, wr h 8 r (-1)) := by
        unfold f_X7_tear
        rw [f_below, Option.bind_some, if_pos (lt6 hr).1, if_neg (by decide), if_pos (inb_nI hr (by decide)), n6 hr, a1, if_pos (nI_pos' (by omega)), if_pos (inb_nI hr (by decide))]
        rfl
      have c2 : f_X8_tear (wr h 8 r (-1)) (nI r) = some (1, wr (wr h 8 r (-1)) 149 r (-1)) := by
        unfold f_X8_tear
        have e : (wr h 8 r (-1)).1 149 r = nI n := by simp [wr_1, a2]
        rw [f_isRow, Option.bind_some, if_pos (lt6 hr).2, if_neg (by decide), if_pos (inb_nI hr (by decide)), n6 hr, e, if_pos (nI_pos' (by omega)), if_pos (inb_nI hr (by decide))]
        rfl
      refine ⟨_, _, _, c1, c2, ?_⟩
      obtain ⟨h1, h2, h3, h4, h5, h6⟩ := hI
      refine ⟨?_, ⟨?_, fun k hk => ?_⟩, h3, fun q hq => ?_, R_txt_fr h5 (fun i hi => ?_), hX _ _ h6 (fun i hi => ?_)⟩
      · unfold R_told at *
        simp [wr_1]
        exact h1
      · simp [wr_1]
        exact h2.1
      · simp [wr_1]
        exact h2.2 k hk
      · obtain ⟨a, b, c⟩ := h4 q hq
        refine ⟨?_, ?_, fun j hj => ?_⟩
        · simp only [wr_1]
          by_cases e : q = r <;> simp [e]
          exact a
        · simp only [wr_1]
          by_cases e : q = r <;> simp [e]
          exact b
        · rw [wr_row (by omega), wr_row (by omega), wr_row (by omega), wr_row (by omega)]
          exact c j hj
      · rw [wr_row (by omega), wr_row (by omega)]
      · have := SX_no hi
        rw [wr_row (by omega), wr_row (by omega)]
  · have c1 : f_X7_tear h x1 = some (-1, h) := by
      unfold f_X7_tear
      rw [f_below, Option.bind_some, if_neg (not_lt6 hb).1, if_pos rfl]
    have c2 : f_X8_tear h x1 = some (-1, h) := by
      unfold f_X8_tear
      rw [f_isRow, Option.bind_some, if_neg (not_lt6 hb).2, if_pos rfl]
    exact ⟨_, _, _, c1, c2, hI⟩
theorem st_asked : ST_asked (InvX X) := fun h hI => ⟨_, rfl, by rw [show f_X8_asked h = some (h.1 147 2) from rfl, ← hI.1], hI⟩
theorem st_upper : ST_upper (InvX X) := fun h hI => ⟨_, rfl, by rw [show f_X8_upper h = some (h.2 147 3) from rfl, ← hI.2.2.1.1], hI⟩
theorem st_lower : ST_lower (InvX X) := fun h hI => ⟨_, rfl, by rw [show f_X8_lower h = some (h.2 147 4) from rfl, ← hI.2.2.1.2], hI⟩
theorem st_finding : ST_finding (InvX X) := fun h hI => ⟨_, rfl, by rw [show f_X8_finding h = some (h.1 147 0) from rfl, ← hI.2.1.1], hI⟩
end IX
