/-! ===== halls: the reference's table ===== -/
theorem m_les {h : TT} {a b : Nat} (ha : a < 2 ^ 31) (hb : b < 2 ^ 31) : f_X8_lesser h (nI a) (nI b) = some (nI (min a b)) := by
  unfold f_X8_lesser
  by_cases z : b ≤ a
  · rw [if_pos (nI_le z ha), Nat.min_eq_right z]
  · rw [if_neg (nI_ge (by omega) hb), Nat.min_eq_left (by omega)]
theorem m_gre {h : TT} {a b : Nat} (ha : a < 2 ^ 30) (hb : b < 2 ^ 30) : f_X8_greater h 0 (nI a - nI b) = some (nI (a - b)) := by
  rw [← imax_nI ha hb]
  unfold f_X8_greater imax
  generalize nI a - nI b = y
  by_cases z : 0 < y
  · rw [if_pos z, if_pos (show 0 ≤ y by have c := i32_lt.mp z; rw [i32_le]; omega)]
  · rw [if_neg z]
    by_cases y0 : 0 ≤ y
    · rw [if_pos y0, show y = 0 from i32_eq.mpr (by have c := mt i32_lt.mpr z; have d := i32_le.mp y0; omega)]
    · rw [if_neg y0]
theorem m_154 {k146 : Int32 → Int32 → Int32 → TT → Option (Int32 × TT)} {x3 : Int32} {k e b G : Nat} {up : Nat → Nat} (hk : k < 4) (hG : G ≤ 40) (he : e ≤ 1000) (hb : b ≤ 60) (hu : ∀ g, g ≤ 40 → up g ≤ 1000000) : ∀ (d f i : Nat) (s : TT), i + d = G + 1 → d < f → (s.1 163 k = 0 ∧ e = 0 ∨ s.1 163 k = 1 ∧ e ≠ 0 ∧ ∀ s' : TT, s'.1 157 = s.1 157 → f_X8_planBlocks s' (nI k) = some (nI b) ∧ f_X8_planPlaces s' (nI k) = some (nI e)) → (∀ g, g ≤ G → s.1 162 (41 * (k + 1) + g) = nI (up g)) → (∀ g, g < i → s.1 162 (41 * k + g) = nI (fwR e b up g)) → f_X8_halls_154 k146 f (nI G) x3 (nI k) (nI i) s = k146 (nI G) x3 (nI k + -1) (wrow s 162 (fun j => if 41 * k + i ≤ j ∧ j ≤ 41 * k + G then nI (fwR e b up (j - 41 * k)) else s.1 162 j)) := by
  intro d
  induction d with
  | zero =>
    intro f i s hi hf hg h1 h2
    obtain ⟨f, rfl⟩ : ∃ g, f = g + 1 := ⟨f - 1, by omega⟩
    rw [f_X8_halls_154, if_pos (nI_lt (by omega) (by omega))]
    congr 1
    refine Prod.ext (funext fun a => funext fun j => ?_) rfl
    rw [wrow_1]
    by_cases z : a = 162
    · rw [if_pos z, if_neg (by omega), z]
    · rw [if_neg z]
  | succ d ih =>
    intro f i s hi hf hg h1 h2
    obtain ⟨f, rfl⟩ : ∃ g, f = g + 1 := ⟨f - 1, by omega⟩
    have u1 := hu i (by omega)
    have k41 : ∀ a g : Nat, (41 : Int32) * nI a + nI g = nI (41 * a + g) := fun a g => by rw [show (41 : Int32) = nI 41 from rfl, pk_mul, nI_add]
    have go : ∀ z : Nat, z < 2 ^ 31 → min (up i) z = fwR e b up i → f_X8_halls_229 k146 (f_X8_halls_154 k146 f) (nI G) x3 (nI k) (nI i) (nI (up i)) (nI z) s = k146 (nI G) x3 (nI k + -1) (wrow s 162 (fun j => if 41 * k + i ≤ j ∧ j ≤ 41 * k + G then nI (fwR e b up (j - 41 * k)) else s.1 162 j)) := fun z hz hm => by
      unfold f_X8_halls_229
      rw [m_les (by omega) hz, hm, Option.bind_some, k41, if_pos (inb_nI (by omega) (by decide)), nI_clamp (by omega), nm_eq, nI_1, ih f (i + 1) _ (by omega) (by omega) (by
        rw [wr_row (show 163 ≠ 162 by omega), wr_row (show 157 ≠ 162 by omega)]
        exact hg) (fun g hg => by
        rw [wr_1, if_neg (by omega)]
        exact h1 g hg) (fun g hg => by
        rw [wr_1]
        by_cases z : g = i
        · rw [if_pos ⟨rfl, by omega⟩, z]
        · rw [if_neg (by omega)]
          exact h2 g (by omega))]
      congr 1
      refine Prod.ext (funext fun a => funext fun j => ?_) rfl
      rw [wrow_1, wrow_1]
      by_cases z : a = 162
      · rw [if_pos z, if_pos z, wr_1]
        by_cases y : 41 * k + (i + 1) ≤ j ∧ j ≤ 41 * k + G
        · rw [if_pos y, if_pos (by omega)]
        · rw [if_neg y]
          by_cases y2 : j = 41 * k + i
          · rw [if_pos ⟨rfl, y2⟩, if_pos (by omega), show j - 41 * k = i by omega]
          · rw [if_neg (fun q => y2 q.2), if_neg (by omega)]
      · rw [if_neg z, if_neg z, wr_1, if_neg (fun q => z q.1)]
    have g6 : min (up i) 1000000 = up i := Nat.min_eq_left u1
    rw [f_X8_halls_154, if_neg (nI_nlt (by omega) (by omega)), nI_1 k, k41, if_pos (inb_nI (by omega) (by decide)), nm_eq, nI_clamp (show 41 * (k + 1) + i < 2 ^ 31 by omega), h1 i (by omega)]
    unfold f_X8_halls_226
    rw [show (1000000 : Int32) = nI 1000000 from rfl]
    by_cases z0 : i = 0
    · rw [if_pos (show nI i ≤ 0 by rw [z0]; decide)]
      exact go 1000000 (by omega) (by rw [g6, fwR_0 (Or.inl z0)])
    · rw [if_neg (show ¬ nI i ≤ 0 from nI_nle (by omega) (by omega)), if_pos (inb_nI hk (by decide)), nI_clamp (show k < 2 ^ 31 by omega)]
      rcases hg with ⟨g1, g2⟩ | ⟨g1, g2, g3⟩
      · rw [if_pos g1]
        exact go 1000000 (by omega) (by rw [g6, fwR_0 (Or.inr g2)])
      · have u2 : fwR e b up (i - e) ≤ 1000000 := Nat.le_trans fwR_le (hu _ (by omega))
        rw [if_neg (by rw [g1]; decide), (g3 s rfl).1, Option.bind_some, (g3 s rfl).2, Option.bind_some, m_gre (by omega) (by omega), Option.bind_some, k41, if_pos (inb_nI (by omega) (by decide)), nI_clamp (show 41 * k + (i - e) < 2 ^ 31 by omega), h2 (i - e) (by omega), nI_add]
        exact go _ (by omega) (fwR_1 (fun q => by omega)).symm
