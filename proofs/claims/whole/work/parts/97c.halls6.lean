/-! ===== halls: the reference's whole table ===== -/
def HG (e b : Nat → Nat) (s : TT) : Prop := ∀ k, k < 4 → (s.1 163 k = 0 ∧ e k = 0 ∨ s.1 163 k = 1 ∧ e k ≠ 0 ∧ ∀ s' : TT, s'.1 157 = s.1 157 → f_X8_planBlocks s' (nI k) = some (nI (b k)) ∧ f_X8_planPlaces s' (nI k) = some (nI (e k)))
theorem m_146 {e b : Nat → Nat} {x3 : Int32} {G : Nat} (hG : G ≤ 40) (he : ∀ k, k < 4 → e k ≤ 1000) (hb : ∀ k, k < 4 → b k ≤ 60) : ∀ (j f : Nat) (s : TT), j ≤ 4 → HG e b s → (∀ i g, j ≤ i → i ≤ 4 → g ≤ G → s.1 162 (41 * i + g) = nI (fwT e b (4 - i) g)) → ∃ s' : TT, (∀ a, a ≠ 162 → s'.1 a = s.1 a) ∧ s'.2 = s.2 ∧ (∀ i g, i ≤ 4 → g ≤ G → s'.1 162 (41 * i + g) = nI (fwT e b (4 - i) g)) ∧ f_X8_halls_146 (f + j) (nI G) x3 (nI j + -1) s = f_X8_halls_146 f (nI G) x3 (-1) s' := by
  intro j
  induction j with
  | zero =>
    intro f s hj hg ht
    exact ⟨s, fun _ _ => rfl, rfl, fun i g h1 h2 => ht i g (by omega) h1 h2, by rw [Nat.add_zero]; rfl⟩
  | succ j ih =>
    intro f s hj hg ht
    have t1 : fwT e b (4 - j) = fwR (e j) (b j) (fwT e b (4 - (j + 1))) := by
      rw [show 4 - j = (4 - (j + 1)) + 1 by omega, fwT, show 3 - (4 - (j + 1)) = j by omega]
    have st : f_X8_halls_146 (f + (j + 1)) (nI G) x3 (nI (j + 1) + -1) s = f_X8_halls_146 (f + j) (nI G) x3 (nI j + -1) (wrow s 162 (fun i => if 41 * j + 0 ≤ i ∧ i ≤ 41 * j + G then nI (fwR (e j) (b j) (fwT e b (4 - (j + 1))) (i - 41 * j)) else s.1 162 i)) := by
      rw [← Int32.sub_eq_add_neg (nI (j + 1)) 1, nI_pred, show f + (j + 1) = f + j + 1 by omega, f_X8_halls_146, if_neg (nI_pos (by omega)), show (0 : Int32) = nI 0 from rfl]
      exact m_154 (e := e j) (b := b j) (up := fwT e b (4 - (j + 1))) (by omega) hG (he j (by omega)) (hb j (by omega)) (fun g _ => fwT_le _ g) (G + 1) KF 0 s (by omega) (by have := KF_ge; omega) (hg j (by omega)) (fun g h => ht (j + 1) g (by omega) (by omega) h) (fun g h => by omega)
    obtain ⟨s', a1, a2, a3, a4⟩ := ih f _ (by omega) (show HG e b (wrow s 162 (fun i => if 41 * j + 0 ≤ i ∧ i ≤ 41 * j + G then nI (fwR (e j) (b j) (fwT e b (4 - (j + 1))) (i - 41 * j)) else s.1 162 i)) from fun k hk => by
      rw [wrow_row (show 163 ≠ 162 by omega), wrow_row (show 157 ≠ 162 by omega)]
      exact hg k hk) (fun i g h1 h2 h3 => by
      rw [wrow_1, if_pos rfl]
      by_cases z : i = j
      · rw [if_pos (by omega), z, t1, show 41 * j + g - 41 * j = g by omega]
      · rw [if_neg (by omega)]
        exact ht i g (by omega) h2 h3)
    refine ⟨s', fun a ha => by rw [a1 a ha, wrow_row ha], by rw [a2]; rfl, a3, by rw [st, a4]⟩
