/-! ===== the relation between the class's rows and the reference's: what is told, findings, ROWS, TEXTS; the rest is X ===== -/
def R_told (h : TT) : Prop := h.1 0 13 = h.1 147 2
def R_find (h : TT) : Prop := h.1 0 16 = h.1 147 0 ∧ ∀ k, k < 6 → h.1 146 k = h.1 148 k
def R_frac (h : TT) : Prop := h.2 0 14 = h.2 147 3 ∧ h.2 0 15 = h.2 147 4
def R_rows (h : TT) : Prop := ∀ r, r < 6 → h.1 8 r = h.1 149 r ∧ (h.1 8 r = -1 ∨ ∃ n, n ≤ 60 ∧ h.1 8 r = nI n) ∧ ∀ i, i < 60 → h.1 (2 + r) i = h.1 150 (60 * r + i)
def R_txt (h : TT) : Prop := ∀ r, r < 4 → h.1 14 r = h.1 152 r ∧ (h.1 14 r = -1 ∨ ∃ n, n ≤ 80 ∧ h.1 14 r = nI n) ∧ ∀ i, i < 80 → h.1 (10 + r) i = h.1 153 (80 * r + i)
/-- the rows of which SNOWS, PLANS, HOUSES are made -/
def SX (i : Nat) : Prop := (16 ≤ i ∧ i ≤ 23) ∨ (25 ≤ i ∧ i ≤ 57) ∨ (59 ≤ i ∧ i ≤ 109) ∨ (154 ≤ i ∧ i ≤ 157) ∨ i = 160 ∨ i = 161
def FrX (X : TT → Prop) : Prop := ∀ h h', X h → (∀ i, SX i → h'.1 i = h.1 i) → X h'
def InvX (X : TT → Prop) (h : TT) : Prop := R_told h ∧ R_find h ∧ R_frac h ∧ R_rows h ∧ R_txt h ∧ X h
theorem R_rows_fr {h h' : TT} (hr : R_rows h) (e : ∀ i, (2 ≤ i ∧ i ≤ 8) ∨ i = 149 ∨ i = 150 → h'.1 i = h.1 i) : R_rows h' := by
  intro r hr6
  obtain ⟨a, b, c⟩ := hr r hr6
  rw [e 8 (by omega), e 149 (by omega), e 150 (by omega), e (2 + r) (by omega)]
  exact ⟨a, b, c⟩
theorem R_txt_fr {h h' : TT} (hr : R_txt h) (e : ∀ i, (10 ≤ i ∧ i ≤ 14) ∨ i = 152 ∨ i = 153 → h'.1 i = h.1 i) : R_txt h' := by
  intro r hr6
  obtain ⟨a, b, c⟩ := hr r hr6
  rw [e 14 (by omega), e 152 (by omega), e 153 (by omega), e (10 + r) (by omega)]
  exact ⟨a, b, c⟩
theorem wr_row {h : TT} {i k a : Nat} {v : Int32} (hn : a ≠ i) : (wr h i k v).1 a = h.1 a := by
  unfold wr
  simp [hn]
theorem wrow_row {h : TT} {i a : Nat} {f : Nat → Int32} (hn : a ≠ i) : (wrow h i f).1 a = h.1 a := by
  unfold wrow
  simp [hn]
theorem SX_no {i : Nat} (h : SX i) : i ≠ 0 ∧ ¬ (2 ≤ i ∧ i ≤ 14) ∧ i ≠ 146 ∧ i ≠ 147 ∧ i ≠ 148 ∧ i ≠ 149 ∧ i ≠ 150 ∧ i ≠ 151 ∧ i ≠ 152 ∧ i ≠ 153 := by
  unfold SX at h
  omega
section IX
variable {X : TT → Prop}
theorem inv_find (hX : FrX X) {h : TT} (hI : InvX X h) {f : Nat} (hf : f < 6) : InvX X (hMeet (hFind h f) f) := by
  obtain ⟨h1, h2, h3, h4, h5, h6⟩ := hI
  unfold hMeet hFind
  refine ⟨?_, ⟨?_, fun k hk => ?_⟩, ?_, R_rows_fr h4 (fun i hi => ?_), R_txt_fr h5 (fun i hi => ?_), hX _ _ h6 (fun i hi => ?_)⟩
  · unfold R_told at *
    simp [wr_1]
    exact h1
  · simp [wr_1]
  · simp only [wr_1]
    have := h2.2 k hk
    have := h2.2 f hf
    by_cases e : k = f
    · subst e
      simp_all
    · simp [e]
      exact h2.2 k hk
  · exact h3
  · rw [wr_row (by omega), wr_row (by omega), wr_row (by omega), wr_row (by omega)]
  · rw [wr_row (by omega), wr_row (by omega), wr_row (by omega), wr_row (by omega)]
  · have := SX_no hi
    rw [wr_row (by omega), wr_row (by omega), wr_row (by omega), wr_row (by omega)]
theorem inv_tell (hX : FrX X) {h : TT} (hI : InvX X h) {v : Int32} : InvX X (wr (wr h 0 13 v) 147 2 v) := by
  obtain ⟨h1, h2, h3, h4, h5, h6⟩ := hI
  refine ⟨?_, ⟨?_, fun k hk => ?_⟩, ?_, R_rows_fr h4 (fun i hi => ?_), R_txt_fr h5 (fun i hi => ?_), hX _ _ h6 (fun i hi => ?_)⟩
  · unfold R_told
    simp [wr_1]
  · simp [wr_1]
    exact h2.1
  · simp [wr_1]
    exact h2.2 k hk
  · exact h3
  · rw [wr_row (by omega), wr_row (by omega)]
  · rw [wr_row (by omega), wr_row (by omega)]
  · have := SX_no hi
    rw [wr_row (by omega), wr_row (by omega)]
/-- two finds -/
theorem fm_find (h : TT) {f : Nat} (hf : f < 6) {x : Int32} (hx : x = nI f) : (f_X7_found h x).bind (fun q => some (q.1, q.2)) = some (-3, hFind h f) := by
  rw [hx, f_found h hf]
  rfl
theorem fm_meet (h : TT) {f : Nat} (hf : f < 6) {x : Int32} (hx : x = nI f) : (f_X8_meets h x).bind (fun q => some (q.1, q.2)) = some (-3, hMeet h f) := by
  rw [hx, f_meets h hf]
  rfl
theorem k60 (r i : Nat) : (60 : Int32) * nI r + nI i = nI (60 * r + i) := by
  rw [show (60 : Int32) = nI 60 from rfl, pk_mul, nI_add]
theorem k80 (r i : Nat) : (80 : Int32) * nI r + nI i = nI (80 * r + i) := by
  rw [show (80 : Int32) = nI 80 from rfl, pk_mul, nI_add]
/-- the row of the reference's ROWS that begins at 60 r is 0 from place i on -/
theorem row_loop {r : Nat} (hr : r < 6) {x2 : Int32} : ∀ (k f i : Nat) (h : TT), i + k = 60 → k < f → f_X8_row_34 f (nI r) x2 (nI i) h = some (x2, wrow h 150 (fun j => if 60 * r + i ≤ j ∧ j < 60 * r + 60 then 0 else h.1 150 j)) := by
  intro k
  induction k with
  | zero =>
    intro f i h hi hf
    obtain ⟨f, rfl⟩ : ∃ g, f = g + 1 := ⟨f - 1, by omega⟩
    have e0 : i = 60 := by omega
    subst e0
    rw [f_X8_row_34, if_pos (show (60 : Int32) ≤ nI 60 by decide)]
    congr 2
    refine Prod.ext (funext fun b => funext fun j => ?_) rfl
    rw [wrow_1]
    by_cases e : b = 150
    · subst e
      rw [if_pos rfl, if_neg (by omega)]
    · rw [if_neg e]
  | succ k ih =>
    intro f i h hi hf
    obtain ⟨f, rfl⟩ : ∃ g, f = g + 1 := ⟨f - 1, by omega⟩
    rw [f_X8_row_34, if_neg (show ¬ (60 : Int32) ≤ nI i from nI_ge (b := 60) (by omega) (by decide)), k60, if_pos (inb_nI (by omega) (by decide)), nI_clamp (by omega)]
    simp only [nm]
    rw [show nI i + 1 = nI (i + 1) from nI_1 i, ih f (i + 1) _ (by omega) (by omega)]
    congr 2
    refine Prod.ext (funext fun b => funext fun j => ?_) rfl
    rw [wrow_1, wrow_1]
    by_cases e : b = 150
    · subst e
      rw [if_pos rfl, if_pos rfl, wr_1]
      by_cases e1 : 60 * r + (i + 1) ≤ j ∧ j < 60 * r + 60
      · rw [if_pos e1, if_pos (by omega)]
      · rw [if_neg e1]
        by_cases e2 : j = 60 * r + i
        · rw [if_pos ⟨rfl, e2⟩, if_pos (by omega)]
        · rw [if_neg (fun q => e2 q.2), if_neg (by omega)]
    · rw [if_neg e, if_neg e, wr_1, if_neg (fun q => e q.1)]
theorem fill_0 {a n : Nat} (hn : n ≤ 760) {v : Int32} (h : TT) : f_J7_fill_53178 h a n v = some (wrow h a (fun j => if j < n then v else h.1 a j)) := by
  unfold f_J7_fill_53178
  simp only [nm]
  rw [show (0 : Int32) = nI 0 from rfl, fill_loop (by omega) n KF 0 h (by omega) (Nat.lt_of_le_of_lt hn KF_ge)]
  simp
/-- a row of 60 is 0 in both, its size n -/
theorem inv_row0 (hX : FrX X) {h : TT} (hI : InvX X h) {r n : Nat} (hr : r < 6) (hn : n ≤ 60) : InvX X (wrow (wr (wr (wrow h (2 + r) (fun j => if j < 60 then 0 else h.1 (2 + r) j)) 8 r (nI n)) 149 r (nI n)) 150 (fun j => if 60 * r ≤ j ∧ j < 60 * r + 60 then 0 else h.1 150 j)) := by
  obtain ⟨h1, h2, h3, h4, h5, h6⟩ := hI
  refine ⟨?_, ⟨?_, fun k hk => ?_⟩, ?_, fun q hq => ?_, R_txt_fr h5 (fun i hi => ?_), hX _ _ h6 (fun i hi => ?_)⟩
  · unfold R_told at *
    rw [wrow_1, wr_1, wr_1, wrow_1, wrow_1, wr_1, wr_1, wrow_1]
    simp
    rw [if_neg (by omega), if_neg (by omega)]
    exact h1
  · rw [wrow_1, wr_1, wr_1, wrow_1, wrow_1, wr_1, wr_1, wrow_1]
    simp
    rw [if_neg (by omega), if_neg (by omega)]
    exact h2.1
  · rw [wrow_1, wr_1, wr_1, wrow_1, wrow_1, wr_1, wr_1, wrow_1]
    simp
    rw [if_neg (by omega), if_neg (by omega)]
    exact h2.2 k hk
  · exact h3
  · obtain ⟨a, b, c⟩ := h4 q hq
    simp only [wrow_1, wr_1]
    refine ⟨?_, ?_, fun i hi => ?_⟩
    · by_cases e : q = r
      · simp [e]
      · simp [e, show ¬ 8 = 2 + r by omega, show ¬ 149 = 2 + r by omega]
        exact a
    · by_cases e : q = r
      · right
        exact ⟨n, hn, by simp [e]⟩
      · simp [e, show ¬ 8 = 2 + r by omega]
        exact b
    · by_cases e : q = r
      · subst e
        simp [hi, show ¬ 2 + q = 150 by omega, show ¬ 2 + q = 149 by omega, show ¬ 2 + q = 8 by omega]
      · have e1 : ¬ (60 * r ≤ 60 * q + i ∧ 60 * q + i < 60 * r + 60) := by omega
        simp [e, e1, show ¬ 2 + q = 150 by omega, show ¬ 2 + q = 149 by omega, show ¬ 2 + q = 8 by omega, show ¬ 2 + q = 2 + r by omega]
        exact c i hi
  · rw [wrow_row (by omega), wr_row (by omega), wr_row (by omega), wrow_row (by omega)]
  · have := SX_no hi
    rw [wrow_row (by omega), wr_row (by omega), wr_row (by omega), wrow_row (by omega)]
theorem not_lt6 {x : Int32} (h : ¬ (0 ≤ x ∧ x < nI 6)) : ¬ (0 ≤ x ∧ x < 6) ∧ ¬ (0 ≤ x ∧ x ≤ 5) := by
  refine ⟨h, fun q => h ⟨q.1, ?_⟩⟩
  have a := i32_le.mp q.2
  rw [i32_lt]
  have e5 : (5 : Int32).toInt = 5 := rfl
  have e6 : (nI 6).toInt = 6 := rfl
  omega
theorem lt6 {j : Nat} (hj : j < 6) : (0 ≤ nI j ∧ nI j < 6) ∧ (0 ≤ nI j ∧ nI j ≤ 5) := ⟨⟨nI_pos' (by omega), nI_lt (b := 6) hj (by decide)⟩, nI_pos' (by omega), nI_le (b := 5) (by omega) (by decide)⟩
theorem not_lt4 {x : Int32} (h : ¬ (0 ≤ x ∧ x < nI 4)) : ¬ (0 ≤ x ∧ x < 4) ∧ ¬ (0 ≤ x ∧ x ≤ 3) := by
  refine ⟨h, fun q => h ⟨q.1, ?_⟩⟩
  have a := i32_le.mp q.2
  rw [i32_lt]
  have e5 : (3 : Int32).toInt = 3 := rfl
  have e6 : (nI 4).toInt = 4 := rfl
  omega
theorem lt4 {j : Nat} (hj : j < 4) : (0 ≤ nI j ∧ nI j < 4) ∧ (0 ≤ nI j ∧ nI j ≤ 3) := ⟨⟨nI_pos' (by omega), nI_lt (b := 4) hj (by decide)⟩, nI_pos' (by omega), nI_le (b := 3) (by omega) (by decide)⟩
theorem st_row (hX : FrX X) : ST_row (InvX X) := by
  intro h hI x1 x2
  rcases place x1 6 (by decide) with ⟨r, hr, rfl⟩ | hb
  · by_cases h60 : x2 ≤ 60
    · by_cases h0 : 0 ≤ x2
      · obtain ⟨n, hn, rfl⟩ := nI_of2 (M := 60) (n := 60) rfl (le_nlt h0) h60
        have c1 : f_X7_row h (nI r) (nI n) = some (nI n, wr (wrow h (2 + r) (fun j => if j < 60 then 0 else h.1 (2 + r) j)) 8 r (nI n)) := by
          unfold f_X7_row
          rw [f_below, Option.bind_some, if_pos (lt6 hr).1, if_neg (by decide), if_pos h60, if_pos h0, if_pos (inb_nI hr (by decide)), nI_clamp (by omega), fill_0 (by decide)]
          simp only [Option.bind_some]
          rw [if_pos (inb_nI hr (by decide))]
          rfl
        have c2 : ∀ h : TT, f_X8_row h (nI r) (nI n) = some (nI n, wrow (wr h 149 r (nI n)) 150 (fun j => if 60 * r ≤ j ∧ j < 60 * r + 60 then 0 else h.1 150 j)) := fun h => by
          unfold f_X8_row
          rw [f_isRow, Option.bind_some, if_pos (lt6 hr).2, if_neg (by decide), if_pos h60, if_pos h0, if_pos (inb_nI hr (by decide)), nI_clamp (by omega)]
          simp only [nm]
          rw [show (0 : Int32) = nI 0 from rfl, row_loop hr 60 KF 0 _ (by omega) (by decide)]
          congr 3
        have h9 := inv_row0 hX hI hr hn
        refine ⟨_, _, _, c1, c2 _, ?_⟩
        simp only [wr_1, wrow_1, show ¬ 150 = 2 + r by omega, if_false, show ¬ (150 = 8 ∧ _) from fun q => by omega] at h9 ⊢
        exact h9
      · have c1 : f_X7_row h (nI r) x2 = some (-3, hFind h 5) := by
          unfold f_X7_row
          rw [f_below, Option.bind_some, if_pos (lt6 hr).1, if_neg (by decide), if_pos h60, if_neg h0]
          exact fm_find h (by decide) rfl
        have c2 : ∀ h : TT, f_X8_row h (nI r) x2 = some (-3, hMeet h 5) := fun h => by
          unfold f_X8_row
          rw [f_isRow, Option.bind_some, if_pos (lt6 hr).2, if_neg (by decide), if_pos h60, if_neg h0]
          exact fm_meet _ (by decide) rfl
        exact ⟨_, _, _, c1, c2 _, inv_find hX hI (f := 5) (by decide)⟩
    · have c1 : f_X7_row h (nI r) x2 = some (-1, h) := by
        unfold f_X7_row
        rw [f_below, Option.bind_some, if_pos (lt6 hr).1, if_neg (by decide), if_neg h60]
      have c2 : f_X8_row h (nI r) x2 = some (-1, h) := by
        unfold f_X8_row
        rw [f_isRow, Option.bind_some, if_pos (lt6 hr).2, if_neg (by decide), if_neg h60]
      exact ⟨_, _, _, c1, c2, hI⟩
  · have c1 : f_X7_row h x1 x2 = some (-1, h) := by
      unfold f_X7_row
      rw [f_below, Option.bind_some, if_neg (not_lt6 hb).1, if_pos rfl]
    have c2 : f_X8_row h x1 x2 = some (-1, h) := by
      unfold f_X8_row
      rw [f_isRow, Option.bind_some, if_neg (not_lt6 hb).2, if_pos rfl]
    exact ⟨_, _, _, c1, c2, hI⟩
end IX
