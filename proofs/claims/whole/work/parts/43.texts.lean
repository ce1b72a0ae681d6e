section IX
variable {X : TT → Prop}
theorem fillB_loop {a n : Nat} (hn : n < 2 ^ 31) {v : Int32} : ∀ (k f i : Nat) (h : TT), i + k = n → k < f → f_J7_fill_031fb_5 a n f v (nI i) (nI n) h = some (wrow h a (fun j => if i ≤ j ∧ j < n then vp_nar .byte v else h.1 a j)) := by
  intro k
  induction k with
  | zero =>
    intro f i h hi hf
    obtain ⟨f, rfl⟩ : ∃ g, f = g + 1 := ⟨f - 1, by omega⟩
    have e0 : i = n := by omega
    subst e0
    rw [f_J7_fill_031fb_5, if_pos (nI_le (Nat.le_refl _) hn)]
    congr 1
    refine Prod.ext (funext fun b => funext fun j => ?_) rfl
    rw [wrow_1]
    by_cases e : b = a
    · subst e
      rw [if_pos rfl, if_neg (by omega)]
    · rw [if_neg e]
  | succ k ih =>
    intro f i h hi hf
    obtain ⟨f, rfl⟩ : ∃ g, f = g + 1 := ⟨f - 1, by omega⟩
    rw [f_J7_fill_031fb_5, if_neg (nI_ge (by omega) hn), if_pos (inb_nI (by omega) hn), nI_clamp (by omega)]
    simp only [nm]
    rw [show nI i + 1 = nI (i + 1) from nI_1 i, ih f (i + 1) _ (by omega) (by omega)]
    congr 1
    refine Prod.ext (funext fun b => funext fun j => ?_) rfl
    rw [wrow_1, wrow_1]
    by_cases e : b = a
    · subst e
      rw [if_pos rfl, if_pos rfl, wr_1]
      by_cases e1 : i + 1 ≤ j ∧ j < n
      · rw [if_pos e1, if_pos (by omega)]
      · rw [if_neg e1]
        by_cases e2 : j = i
        · rw [if_pos ⟨rfl, e2⟩, if_pos (by omega)]
        · rw [if_neg (fun q => e2 q.2), if_neg (by omega)]
    · rw [if_neg e, if_neg e, wr_1, if_neg (fun q => e q.1)]
theorem fillB_0 {a n : Nat} (hn : n ≤ 760) {v : Int32} (h : TT) : f_J7_fill_031fb h a n v = some (wrow h a (fun j => if j < n then vp_nar .byte v else h.1 a j)) := by
  unfold f_J7_fill_031fb
  simp only [nm]
  rw [show (0 : Int32) = nI 0 from rfl, fillB_loop (by omega) n KF 0 h (by omega) (Nat.lt_of_le_of_lt hn KF_ge)]
  simp
theorem text_loop {r : Nat} (hr : r < 4) {x2 : Int32} : ∀ (k f i : Nat) (h : TT), i + k = 80 → k < f → f_X8_text_34 f (nI r) x2 (nI i) h = some (x2, wrow h 153 (fun j => if 80 * r + i ≤ j ∧ j < 80 * r + 80 then vp_nar .byte 32 else h.1 153 j)) := by
  intro k
  induction k with
  | zero =>
    intro f i h hi hf
    obtain ⟨f, rfl⟩ : ∃ g, f = g + 1 := ⟨f - 1, by omega⟩
    have e0 : i = 80 := by omega
    subst e0
    rw [f_X8_text_34, if_pos (show (80 : Int32) ≤ nI 80 by decide)]
    congr 2
    refine Prod.ext (funext fun b => funext fun j => ?_) rfl
    rw [wrow_1]
    by_cases e : b = 153
    · subst e
      rw [if_pos rfl, if_neg (by omega)]
    · rw [if_neg e]
  | succ k ih =>
    intro f i h hi hf
    obtain ⟨f, rfl⟩ : ∃ g, f = g + 1 := ⟨f - 1, by omega⟩
    rw [f_X8_text_34, if_neg (show ¬ (80 : Int32) ≤ nI i from nI_ge (b := 80) (by omega) (by decide)), k80, if_pos (inb_nI (by omega) (by decide)), nI_clamp (by omega)]
    simp only [nm]
    rw [show nI i + 1 = nI (i + 1) from nI_1 i, ih f (i + 1) _ (by omega) (by omega)]
    congr 2
    refine Prod.ext (funext fun b => funext fun j => ?_) rfl
    rw [wrow_1, wrow_1]
    by_cases e : b = 153
    · subst e
      rw [if_pos rfl, if_pos rfl, wr_1]
      by_cases e1 : 80 * r + (i + 1) ≤ j ∧ j < 80 * r + 80
      · rw [if_pos e1, if_pos (by omega)]
      · rw [if_neg e1]
        by_cases e2 : j = 80 * r + i
        · rw [if_pos ⟨rfl, e2⟩, if_pos (by omega)]
        · rw [if_neg (fun q => e2 q.2), if_neg (by omega)]
    · rw [if_neg e, if_neg e, wr_1, if_neg (fun q => e q.1)]
theorem inv_txt0 (hX : FrX X) {h : TT} (hI : InvX X h) {r n : Nat} {c : Int32} (hr : r < 4) (hn : n ≤ 80) : InvX X (wrow (wr (wr (wrow h (10 + r) (fun j => if j < 80 then c else h.1 (10 + r) j)) 14 r (nI n)) 152 r (nI n)) 153 (fun j => if 80 * r ≤ j ∧ j < 80 * r + 80 then c else h.1 153 j)) := by
  obtain ⟨h1, h2, h3, h4, h5, h6⟩ := hI
  refine ⟨?_, ⟨?_, fun k hk => ?_⟩, ?_, R_rows_fr h4 (fun i hi => ?_), fun q hq => ?_, hX _ _ h6 (fun i hi => ?_)⟩
  · unfold R_told at *
    simp [wrow_1, wr_1, show ¬ 0 = 10 + r by omega, show ¬ 147 = 10 + r by omega]
    exact h1
  · simp [wrow_1, wr_1, show ¬ 0 = 10 + r by omega, show ¬ 147 = 10 + r by omega]
    exact h2.1
  · simp [wrow_1, wr_1, show ¬ 146 = 10 + r by omega, show ¬ 148 = 10 + r by omega]
    exact h2.2 k hk
  · exact h3
  · rw [wrow_row (by omega), wr_row (by omega), wr_row (by omega), wrow_row (by omega)]
  · obtain ⟨a, b, c⟩ := h5 q hq
    simp only [wrow_1, wr_1]
    refine ⟨?_, ?_, fun i hi => ?_⟩
    · by_cases e : q = r
      · simp [e]
      · simp [e, show ¬ 14 = 10 + r by omega, show ¬ 152 = 10 + r by omega]
        exact a
    · by_cases e : q = r
      · right
        exact ⟨n, hn, by simp [e]⟩
      · simp [e, show ¬ 14 = 10 + r by omega]
        exact b
    · by_cases e : q = r
      · subst e
        simp [hi, show ¬ 10 + q = 153 by omega, show ¬ 10 + q = 152 by omega, show ¬ 10 + q = 14 by omega]
      · have e1 : ¬ (80 * r ≤ 80 * q + i ∧ 80 * q + i < 80 * r + 80) := by omega
        simp [e, e1, show ¬ 10 + q = 153 by omega, show ¬ 10 + q = 152 by omega, show ¬ 10 + q = 14 by omega, show ¬ 10 + q = 10 + r by omega]
        exact c i hi
  · have := SX_no hi
    rw [wrow_row (by omega), wr_row (by omega), wr_row (by omega), wrow_row (by omega)]
theorem st_text (hX : FrX X) : ST_text (InvX X) := by
  intro h hI x1 x2
  rcases place x1 4 (by decide) with ⟨r, hr, rfl⟩ | hb
  · by_cases h60 : x2 ≤ 80
    · by_cases h0 : 0 ≤ x2
      · obtain ⟨n, hn, rfl⟩ := nI_of2 (M := 80) (n := 80) rfl (le_nlt h0) h60
        have c1 : f_X7_text h (nI r) (nI n) = some (nI n, wr (wrow h (10 + r) (fun j => if j < 80 then vp_nar .byte 32 else h.1 (10 + r) j)) 14 r (nI n)) := by
          unfold f_X7_text
          rw [f_below, Option.bind_some, if_pos (lt4 hr).1, if_neg (by decide), if_pos h60, if_pos h0, if_pos (inb_nI hr (by decide)), nI_clamp (by omega), fillB_0 (by decide)]
          simp only [Option.bind_some]
          rw [if_pos (inb_nI hr (by decide))]
          rfl
        have c2 : ∀ h : TT, f_X8_text h (nI r) (nI n) = some (nI n, wrow (wr h 152 r (nI n)) 153 (fun j => if 80 * r ≤ j ∧ j < 80 * r + 80 then vp_nar .byte 32 else h.1 153 j)) := fun h => by
          unfold f_X8_text
          rw [f_isText, Option.bind_some, if_pos (lt4 hr).2, if_neg (by decide), if_pos h60, if_pos h0, if_pos (inb_nI hr (by decide)), nI_clamp (by omega)]
          simp only [nm]
          rw [show (0 : Int32) = nI 0 from rfl, text_loop hr 80 KF 0 _ (by omega) (by decide)]
          congr 3
        have h9 := inv_txt0 (c := vp_nar .byte 32) hX hI hr hn
        refine ⟨_, _, _, c1, c2 _, ?_⟩
        simp only [wr_1, wrow_1, show ¬ 153 = 10 + r by omega, if_false, show ¬ (153 = 14 ∧ _) from fun q => by omega] at h9 ⊢
        exact h9
      · have c1 : f_X7_text h (nI r) x2 = some (-3, hFind h 5) := by
          unfold f_X7_text
          rw [f_below, Option.bind_some, if_pos (lt4 hr).1, if_neg (by decide), if_pos h60, if_neg h0]
          exact fm_find h (by decide) rfl
        have c2 : ∀ h : TT, f_X8_text h (nI r) x2 = some (-3, hMeet h 5) := fun h => by
          unfold f_X8_text
          rw [f_isText, Option.bind_some, if_pos (lt4 hr).2, if_neg (by decide), if_pos h60, if_neg h0]
          exact fm_meet _ (by decide) rfl
        exact ⟨_, _, _, c1, c2 _, inv_find hX hI (f := 5) (by decide)⟩
    · have c1 : f_X7_text h (nI r) x2 = some (-1, h) := by
        unfold f_X7_text
        rw [f_below, Option.bind_some, if_pos (lt4 hr).1, if_neg (by decide), if_neg h60]
      have c2 : f_X8_text h (nI r) x2 = some (-1, h) := by
        unfold f_X8_text
        rw [f_isText, Option.bind_some, if_pos (lt4 hr).2, if_neg (by decide), if_neg h60]
      exact ⟨_, _, _, c1, c2, hI⟩
  · have c1 : f_X7_text h x1 x2 = some (-1, h) := by
      unfold f_X7_text
      rw [f_below, Option.bind_some, if_neg (not_lt4 hb).1, if_pos rfl]
    have c2 : f_X8_text h x1 x2 = some (-1, h) := by
      unfold f_X8_text
      rw [f_isText, Option.bind_some, if_neg (not_lt4 hb).2, if_pos rfl]
    exact ⟨_, _, _, c1, c2, hI⟩
theorem inv_put (hX : FrX X) {h : TT} (hI : InvX X h) {r i : Nat} (hr : r < 4) (hi : i < 80) {v : Int32} : InvX X (wr (wr h (10 + r) i v) 153 (80 * r + i) v) := by
  obtain ⟨h1, h2, h3, h4, h5, h6⟩ := hI
  refine ⟨?_, ⟨?_, fun k hk => ?_⟩, ?_, R_rows_fr h4 (fun i hi => ?_), fun q hq => ?_, hX _ _ h6 (fun i hi => ?_)⟩
  · unfold R_told at *
    simp [wr_1, show ¬ 0 = 10 + r by omega, show ¬ 147 = 10 + r by omega]
    exact h1
  · simp [wr_1, show ¬ 0 = 10 + r by omega, show ¬ 147 = 10 + r by omega]
    exact h2.1
  · simp [wr_1, show ¬ 146 = 10 + r by omega, show ¬ 148 = 10 + r by omega]
    exact h2.2 k hk
  · exact h3
  · rw [wr_row (by omega), wr_row (by omega)]
  · obtain ⟨a, b, c⟩ := h5 q hq
    have e8 : (wr (wr h (10 + r) i v) 153 (80 * r + i) v).1 14 = h.1 14 := by rw [wr_row (by omega), wr_row (by omega)]
    have e9 : (wr (wr h (10 + r) i v) 153 (80 * r + i) v).1 152 = h.1 152 := by rw [wr_row (by omega), wr_row (by omega)]
    rw [e8, e9]
    refine ⟨a, b, fun j hj => ?_⟩
    have e := c j hj
    simp only [wr_1]
    by_cases e1 : q = r ∧ j = i
    · obtain ⟨rfl, rfl⟩ := e1
      simp [show ¬ 10 + q = 153 by omega]
    · have e2 : ¬ (10 + q = 10 + r ∧ j = i) := by omega
      have e3 : ¬ (80 * q + j = 80 * r + i) := by omega
      simp [e3, show ¬ 10 + q = 153 by omega, show ¬ 153 = 10 + r by omega]
      rw [if_neg e1]
      exact e
  · have := SX_no hi
    rw [wr_row (by omega), wr_row (by omega)]
theorem st_put (hX : FrX X) : ST_put (InvX X) := by
  intro h hI x1 x2 x3
  rcases place x1 4 (by decide) with ⟨r, hr, rfl⟩ | hb
  · have n4 : (nI r).toNatClampNeg = r := nI_clamp (by omega)
    rcases tcase hI.2.2.2.2.1 hr with ⟨a1, a2⟩ | ⟨n, hn, a1, a2⟩
    · have c1 : f_X7_put h (nI r) x2 x3 = some (-3, hFind h 1) := by
        unfold f_X7_put
        rw [f_below, Option.bind_some, if_pos (lt4 hr).1, if_neg (by decide), if_pos (inb_nI hr (by decide)), n4, a1, if_neg m1_neg]
        exact fm_find h (by decide) rfl
      have c2 : f_X8_put (hFind h 1) (nI r) x2 x3 = some (-3, hMeet (hFind h 1) 1) := by
        unfold f_X8_put
        have e : (hFind h 1).1 152 r = -1 := by simp [hFind, wr_1, a2]
        rw [f_isText, Option.bind_some, if_pos (lt4 hr).2, if_neg (by decide), if_pos (inb_nI hr (by decide)), n4, e, if_neg m1_neg]
        exact fm_meet _ (by decide) rfl
      exact ⟨_, _, _, c1, c2, inv_find hX hI (by decide)⟩
    · rcases place x2 n (by omega) with ⟨i, hi, rfl⟩ | hq
      · have c1 : f_X7_put h (nI r) (nI i) x3 = some (h.1 (10 + r) i + 1000, wr h (10 + r) i (vp_nar .byte x3.toInt8.toInt32)) := by
          unfold f_X7_put
          rw [f_below, Option.bind_some, if_pos (lt4 hr).1, if_neg (by decide), if_pos (inb_nI hr (by decide)), n4, a1, if_pos (nI_pos' (by omega)), if_pos (inb_nI hr (by decide)), f_below, Option.bind_some, if_pos (lt_n hi (by omega)), if_neg (by decide), if_pos (inb_nI hr (by decide)), if_pos (inb_nI (by omega) (by decide)), nI_clamp (by omega)]
          simp only [nm]
          rw [if_pos (inb_nI hr (by decide)), if_pos (inb_nI (by omega) (by decide))]
        have c2 : f_X8_put (wr h (10 + r) i (vp_nar .byte x3.toInt8.toInt32)) (nI r) (nI i) x3 = some (h.1 (10 + r) i + 1000, wr (wr h (10 + r) i (vp_nar .byte x3.toInt8.toInt32)) 153 (80 * r + i) (vp_nar .byte x3.toInt8.toInt32)) := by
          unfold f_X8_put
          have e : (wr h (10 + r) i (vp_nar .byte x3.toInt8.toInt32)).1 152 r = nI n := by simp [wr_1, a2, show ¬ 152 = 10 + r by omega]
          have e2 : (wr h (10 + r) i (vp_nar .byte x3.toInt8.toInt32)).1 153 (80 * r + i) = h.1 (10 + r) i := by
            simp [wr_1, show ¬ 153 = 10 + r by omega]
            exact ((hI.2.2.2.2.1 r hr).2.2 i (by omega)).symm
          rw [f_isText, Option.bind_some, if_pos (lt4 hr).2, if_neg (by decide), if_pos (inb_nI hr (by decide)), n4, e, if_pos (nI_pos' (by omega)), if_pos (inb_nI hr (by decide)), f_in, Option.bind_some, if_pos ((in_pred (by omega)).mpr (lt_n hi (by omega))), if_neg (by decide), k80, if_pos (inb_nI (by omega) (by decide)), nI_clamp (by omega), e2]
          simp only [nm]
          rw [if_pos (inb_nI (by omega) (by decide)), Int32.add_comm]
        exact ⟨_, _, _, c1, c2, inv_put hX hI hr (by omega)⟩
      · have c1 : f_X7_put h (nI r) x2 x3 = some (-3, hFind h 2) := by
          unfold f_X7_put
          rw [f_below, Option.bind_some, if_pos (lt4 hr).1, if_neg (by decide), if_pos (inb_nI hr (by decide)), n4, a1, if_pos (nI_pos' (by omega)), if_pos (inb_nI hr (by decide)), f_below, Option.bind_some, if_neg hq, if_pos rfl]
          exact fm_find h (by decide) rfl
        have c2 : f_X8_put (hFind h 2) (nI r) x2 x3 = some (-3, hMeet (hFind h 2) 2) := by
          unfold f_X8_put
          have e : (hFind h 2).1 152 r = nI n := by simp [hFind, wr_1, a2]
          rw [f_isText, Option.bind_some, if_pos (lt4 hr).2, if_neg (by decide), if_pos (inb_nI hr (by decide)), n4, e, if_pos (nI_pos' (by omega)), if_pos (inb_nI hr (by decide)), f_in, Option.bind_some, if_neg (fun z => hq ((in_pred (by omega)).mp z)), if_pos rfl]
          exact fm_meet _ (by decide) rfl
        exact ⟨_, _, _, c1, c2, inv_find hX hI (by decide)⟩
  · have c1 : f_X7_put h x1 x2 x3 = some (-1, h) := by
      unfold f_X7_put
      rw [f_below, Option.bind_some, if_neg (not_lt4 hb).1, if_pos rfl]
    have c2 : f_X8_put h x1 x2 x3 = some (-1, h) := by
      unfold f_X8_put
      rw [f_isText, Option.bind_some, if_neg (not_lt4 hb).2, if_pos rfl]
    exact ⟨_, _, _, c1, c2, hI⟩
theorem st_findings : ST_findings (InvX X) := by
  intro h hI x1
  by_cases h1 : x1 < 1
  · refine ⟨-1, ?_, ?_, hI⟩
    · unfold f_X7_findings f_X7_findings_10
      rw [if_pos h1]
    · unfold f_X8_findings
      have e : ¬ ((1 : Int32) ≤ x1 ∧ x1 ≤ 5) := fun q => by have a := i32_lt.mp h1; have b := i32_le.mp q.1; omega
      rw [f_in, Option.bind_some, if_neg e, if_pos rfl]
  · by_cases h5 : x1 ≤ 5
    · have h1' : 1 ≤ x1 := by rw [i32_le]; rw [i32_lt] at h1; omega
      have h0 : ¬ x1 < 0 := fun q => by
        have a := i32_lt.mp q
        have b := i32_le.mp h1'
        have e0 : (0 : Int32).toInt = 0 := rfl
        have e1 : (1 : Int32).toInt = 1 := rfl
        omega
      obtain ⟨j, hj, rfl⟩ := nI_of2 (M := 5) (n := 5) rfl h0 h5
      refine ⟨h.1 146 j, ?_, ?_, hI⟩
      · unfold f_X7_findings
        rw [if_neg h1, if_pos h5, if_pos (inb_nI (by omega) (by decide)), nI_clamp (by omega)]
      · unfold f_X8_findings
        have e : (1 : Int32) ≤ nI j ∧ nI j ≤ 5 := ⟨h1', h5⟩
        rw [f_in, Option.bind_some, if_pos e, if_neg (by decide), if_pos (inb_nI (by omega) (by decide)), nI_clamp (by omega), hI.2.1.2 j (by omega)]
    · refine ⟨-1, ?_, ?_, hI⟩
      · unfold f_X7_findings f_X7_findings_10
        rw [if_neg h1, if_neg h5]
      · unfold f_X8_findings
        have e : ¬ ((1 : Int32) ≤ x1 ∧ x1 ≤ 5) := fun q => h5 q.2
        rw [f_in, Option.bind_some, if_neg e, if_pos rfl]
end IX
