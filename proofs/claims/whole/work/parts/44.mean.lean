section IX
variable {X : TT → Prop}
def sumF (g : Nat → Int32) : Nat → Nat → Int64 → Int64
  | 0, _, acc => acc
  | k + 1, i, acc => sumF g k (i + 1) (acc + (g i).toInt64)
theorem sumF_eq {g g2 : Nat → Int32} : ∀ (k i : Nat) (acc : Int64), (∀ j, i ≤ j → j < i + k → g j = g2 j) → sumF g k i acc = sumF g2 k i acc := by
  intro k
  induction k with
  | zero => intro i acc h; rfl
  | succ k ih =>
    intro i acc h
    rw [sumF, sumF, h i (by omega) (by omega)]
    exact ih _ _ (fun j h1 h2 => h j (by omega) (by omega))
theorem lN_ne0 {n : Nat} (h : n ≠ 0) (hn : n < 2 ^ 31) : ¬ lN n = 0 := fun q => h ((lN_eq hn (by decide)).mp (q.trans (show (0 : Int64) = lN 0 from rfl)))
theorem meanC {r n : Nat} (hr : r < 6) (hn : n ≤ 60) (h0 : n ≠ 0) {h : TT} : ∀ (k f i : Nat) (acc : Int64), i + k = n → k < f → f_X7_mean_43 f (nI r) (nI n) acc (nI i) h = some (1, wr h 0 13 (sumF (h.1 (2 + r)) k i acc / lN n).toInt32) := by
  intro k
  induction k with
  | zero =>
    intro f i acc hi hf
    obtain ⟨f, rfl⟩ : ∃ g, f = g + 1 := ⟨f - 1, by omega⟩
    have e0 : i = n := by omega
    subst e0
    rw [f_X7_mean_43, if_pos (nI_le (Nat.le_refl _) (by omega)), nI_l (by omega), if_neg (lN_ne0 h0 (by omega))]
    rfl
  | succ k ih =>
    intro f i acc hi hf
    obtain ⟨f, rfl⟩ : ∃ g, f = g + 1 := ⟨f - 1, by omega⟩
    rw [f_X7_mean_43, if_neg (nI_ge (by omega) (by omega)), if_pos (inb_nI hr (by decide)), if_pos (inb_nI (by omega) (by decide)), nI_clamp (by omega), nI_clamp (by omega)]
    simp only [nm]
    rw [show nI i + 1 = nI (i + 1) from nI_1 i, ih f (i + 1) _ (by omega) (by omega)]
    rfl
theorem meanM {r n : Nat} (hr : r < 6) (hn : n ≤ 60) (h0 : n ≠ 0) {h : TT} (hs : h.1 149 r = nI n) : ∀ (k f i : Nat) (acc : Int64), i + k = n → k < f → f_X8_mean_44 f (nI r) acc (nI i) h = some (1, wr h 147 2 (sumF (fun j => h.1 150 (60 * r + j)) k i acc / lN n).toInt32) := by
  intro k
  induction k with
  | zero =>
    intro f i acc hi hf
    obtain ⟨f, rfl⟩ : ∃ g, f = g + 1 := ⟨f - 1, by omega⟩
    have e0 : i = n := by omega
    subst e0
    rw [f_X8_mean_44, if_pos (inb_nI hr (by decide)), nI_clamp (by omega), hs, if_pos (nI_le (Nat.le_refl _) (by omega)), if_pos (inb_nI hr (by decide)), nI_l (by omega), if_neg (lN_ne0 h0 (by omega))]
    rfl
  | succ k ih =>
    intro f i acc hi hf
    obtain ⟨f, rfl⟩ : ∃ g, f = g + 1 := ⟨f - 1, by omega⟩
    unfold f_X8_mean_44 f_X8_rowAt
    rw [if_pos (inb_nI hr (by decide)), nI_clamp (by omega), hs, if_neg (nI_ge (by omega) (by omega)), k60, if_pos (inb_nI (by omega) (by decide)), Option.bind_some, nI_clamp (by omega)]
    simp only [nm]
    rw [show nI i + 1 = nI (i + 1) from nI_1 i, ih f (i + 1) _ (by omega) (by omega)]
    rfl
theorem st_mean (hX : FrX X) : ST_mean (InvX X) := by
  intro h hI x1
  rcases place x1 6 (by decide) with ⟨r, hr, rfl⟩ | hb
  · rcases rcase hI.2.2.2.1 hr with ⟨a1, a2⟩ | ⟨n, hn, a1, a2⟩
    · have c1 : f_X7_mean h (nI r) = some (-3, hFind h 1) := by
        unfold f_X7_mean
        simp only [nm]
        rw [f_below, Option.bind_some, if_pos (lt6 hr).1, if_neg (by decide), if_pos (inb_nI hr (by decide)), n6 hr, a1, if_neg m1_neg]
        exact fm_find h (by decide) rfl
      have c2 : f_X8_mean (hFind h 1) (nI r) = some (-3, hMeet (hFind h 1) 1) := by
        unfold f_X8_mean
        have e : (hFind h 1).1 149 r = -1 := by simp [hFind, wr_1, a2]
        rw [f_isRow, Option.bind_some, if_pos (lt6 hr).2, if_neg (by decide), if_pos (inb_nI hr (by decide)), n6 hr, e, if_neg m1_neg]
        exact fm_meet _ (by decide) rfl
      exact ⟨_, _, _, c1, c2, inv_find hX hI (by decide)⟩
    · by_cases h0 : n = 0
      · subst h0
        have c1 : f_X7_mean h (nI r) = some (-3, hFind h 4) := by
          unfold f_X7_mean
          simp only [nm]
          rw [f_below, Option.bind_some, if_pos (lt6 hr).1, if_neg (by decide), if_pos (inb_nI hr (by decide)), n6 hr, a1, if_pos (by decide), if_pos (by decide)]
          exact fm_find h (by decide) rfl
        have c2 : f_X8_mean (hFind h 4) (nI r) = some (-3, hMeet (hFind h 4) 4) := by
          unfold f_X8_mean
          have e : (hFind h 4).1 149 r = nI 0 := by simp [hFind, wr_1, a2]
          rw [f_isRow, Option.bind_some, if_pos (lt6 hr).2, if_neg (by decide), if_pos (inb_nI hr (by decide)), n6 hr, e, if_pos (by decide), if_pos (inb_nI hr (by decide)), if_pos (by decide)]
          exact fm_meet _ (by decide) rfl
        exact ⟨_, _, _, c1, c2, inv_find hX hI (by decide)⟩
      · have c1 : f_X7_mean h (nI r) = some (1, wr h 0 13 (sumF (h.1 (2 + r)) n 0 0 / lN n).toInt32) := by
          unfold f_X7_mean
          simp only [nm]
          rw [f_below, Option.bind_some, if_pos (lt6 hr).1, if_neg (by decide), if_pos (inb_nI hr (by decide)), n6 hr, a1, if_pos (nI_pos' (by omega)), if_neg (nI_ne0 (by omega) (by omega)), show (0 : Int32) = nI 0 from rfl]
          exact meanC hr hn h0 n KF 0 0 (by omega) (by have := KF_ge; omega)
        have c2 : f_X8_mean (wr h 0 13 (sumF (h.1 (2 + r)) n 0 0 / lN n).toInt32) (nI r) = some (1, wr (wr h 0 13 (sumF (h.1 (2 + r)) n 0 0 / lN n).toInt32) 147 2 (sumF (h.1 (2 + r)) n 0 0 / lN n).toInt32) := by
          unfold f_X8_mean
          have e : (wr h 0 13 (sumF (h.1 (2 + r)) n 0 0 / lN n).toInt32).1 149 r = nI n := by simp [wr_1, a2]
          rw [f_isRow, Option.bind_some, if_pos (lt6 hr).2, if_neg (by decide), if_pos (inb_nI hr (by decide)), n6 hr, e, if_pos (nI_pos' (by omega)), if_pos (inb_nI hr (by decide)), if_neg (nI_ne0 (by omega) (by omega)), show (0 : Int32) = nI 0 from rfl, meanM hr hn h0 e n KF 0 0 (by omega) (by have := KF_ge; omega)]
          have e2 : sumF (fun j => (wr h 0 13 (sumF (h.1 (2 + r)) n 0 0 / lN n).toInt32).1 150 (60 * r + j)) n 0 0 = sumF (h.1 (2 + r)) n 0 0 := by
            refine sumF_eq n 0 0 (fun j _ hj => ?_)
            simp [wr_1]
            exact ((hI.2.2.2.1 r hr).2.2 j (by omega)).symm
          rw [e2]
        exact ⟨_, _, _, c1, c2, inv_tell hX hI⟩
  · have c1 : f_X7_mean h x1 = some (-1, h) := by
      unfold f_X7_mean
      rw [f_below, Option.bind_some, if_neg (not_lt6 hb).1, if_pos rfl]
    have c2 : f_X8_mean h x1 = some (-1, h) := by
      unfold f_X8_mean
      rw [f_isRow, Option.bind_some, if_neg (not_lt6 hb).2, if_pos rfl]
    exact ⟨_, _, _, c1, c2, hI⟩
end IX
