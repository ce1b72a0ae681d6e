/-! ===== halls: the share of the four plans ===== -/
def fwT (e b : Nat → Nat) : Nat → Nat → Nat
  | 0 => up4
  | j + 1 => fwR (e (3 - j)) (b (3 - j)) (fwT e b j)
theorem fwT_le {e b : Nat → Nat} : ∀ (j g : Nat), fwT e b j g ≤ 1000000 := by
  intro j
  induction j with
  | zero => exact up4_le
  | succ j ih => exact fun g => Nat.le_trans fwR_le (ih g)
theorem r_share {e b : Nat → Nat} {r G : Nat} (hr : r < 6) (hG : G ≤ 40) (he : ∀ k, k < 4 → e k ≤ 1000) (hb : ∀ k, k < 4 → b k ≤ 60) : ∀ (d k y : Nat), k + d = 4 → y ≤ G → ∃ c : Nat → Int32, (∀ (f : Nat) (s : TT), d < f → (∀ j g, j ≤ 4 → g ≤ 40 → s.1 (140 + j) g = nI (fwT e b (4 - j) g)) → (∀ j, j < 4 → s.1 145 j = nI (e j)) → f_X1_share_10 (2 + r) 60 f (nI y) (nI k) s = some (wrow s (2 + r) (fun j => if k ≤ j ∧ j < 4 then c j else s.1 (2 + r) j))) ∧ ∀ (f : Nat) (s : TT) (x4 : Int32), d < f → (∀ j g, j ≤ 4 → g ≤ G → s.1 162 (41 * j + g) = nI (fwT e b (4 - j) g)) → (∀ j, k ≤ j → j < 4 → s.1 150 (60 * r + j) = nI 0) → (∀ j, j < 4 → e j ≠ 0 → ∀ s' : TT, s'.1 157 = s.1 157 → f_X8_planBlocks s' (nI j) = some (nI (b j)) ∧ f_X8_planPlaces s' (nI j) = some (nI (e j))) → f_X8_halls_328 f (nI r) x4 (nI y) (nI (fwT e b (4 - k) y)) (nI k) s = some (x4, wrow s 150 (fun j => if 60 * r + k ≤ j ∧ j < 60 * r + 4 then c (j - 60 * r) else s.1 150 j)) := by
  intro d
  induction d with
  | zero =>
    intro k y hk hy
    obtain rfl : k = 4 := by omega
    refine ⟨fun _ => 0, fun f s hf q1 q2 => ?_, fun f s x4 hf q1 q2 q3 => ?_⟩
    · obtain ⟨f, rfl⟩ : ∃ g, f = g + 1 := ⟨f - 1, by omega⟩
      rw [f_X1_share_10, if_pos (show (4 : Int32) ≤ nI 4 by decide)]
      congr 1
      refine Prod.ext (funext fun a => funext fun j => ?_) rfl
      rw [wrow_1]
      by_cases z : a = 2 + r
      · rw [if_pos z, if_neg (by omega), z]
      · rw [if_neg z]
    · obtain ⟨f, rfl⟩ : ∃ g, f = g + 1 := ⟨f - 1, by omega⟩
      rw [f_X8_halls_328, if_pos (show (4 : Int32) ≤ nI 4 by decide)]
      congr 2
      refine Prod.ext (funext fun a => funext fun j => ?_) rfl
      rw [wrow_1]
      by_cases z : a = 150
      · rw [if_pos z, if_neg (by omega), z]
      · rw [if_neg z]
  | succ d ih =>
    intro k y hk hy
    have t1 : fwT e b (4 - k) = fwR (e k) (b k) (fwT e b (4 - (k + 1))) := by
      rw [show 4 - k = (4 - (k + 1)) + 1 by omega, fwT, show 3 - (4 - (k + 1)) = k by omega]
    obtain ⟨y', c1, i1, i2, i3, i4, i5⟩ := r_shr (k := k) (e := e k) (b := b k) (r := r) (G := G) (up := fwT e b (4 - (k + 1))) (by omega) hr hG (he k (by omega)) (hb k (by omega)) (fun g _ => fwT_le _ g) y y 0 0 (Nat.le_refl _) hy (by omega)
    obtain ⟨c, j1, j2⟩ := ih (k + 1) y' (by omega) (by omega)
    refine ⟨fun j => if j = k then nI c1 else c j, fun f s hf q1 q2 => ?_, fun f s x4 hf q1 q2 q3 => ?_⟩
    · obtain ⟨f, rfl⟩ : ∃ g, f = g + 1 := ⟨f - 1, by omega⟩
      rw [f_X1_share_10, if_neg (show ¬ (4 : Int32) ≤ nI k from nI_ge (b := 4) (by omega) (by omega)), if_neg (nI_ge (by omega) (by omega)), if_pos (inb_nI (by omega) (by decide)), nI_clamp (by omega), nm_eq, show (0 : Int32) = nI 0 from rfl, i4 KF _ _ (by have := KF_ge; omega) (fun g hg => by rw [wr_row (by omega), q1 k g (by omega) hg, t1]) (fun g hg => by rw [wr_row (by omega), q1 (k + 1) g (by omega) hg]) (by rw [wr_row (by omega)]; exact q2 k (by omega)) (by rw [wr_1, if_pos ⟨rfl, rfl⟩]), wr_ww, j1 f _ (by omega) (fun j g hj hg => by rw [wr_row (by omega)]; exact q1 j g hj hg) (fun j hj => by rw [wr_row (by omega)]; exact q2 j hj)]
      congr 1
      refine Prod.ext (funext fun a => funext fun j => ?_) rfl
      rw [wrow_1, wrow_1]
      by_cases z : a = 2 + r
      · rw [if_pos z, if_pos z, wr_1]
        by_cases zk : j = k
        · rw [if_neg (by omega), if_pos ⟨rfl, zk⟩, if_pos (by omega)]
          exact (if_pos zk).symm
        · by_cases zr : k + 1 ≤ j ∧ j < 4
          · rw [if_pos zr, if_pos (by omega)]
            exact (if_neg zk).symm
          · rw [if_neg zr, if_neg (fun w => zk w.2), if_neg (by omega)]
      · rw [if_neg z, if_neg z, wr_1, if_neg (fun w => z w.1)]
    · obtain ⟨f, rfl⟩ : ∃ g, f = g + 1 := ⟨f - 1, by omega⟩
      rw [f_X8_halls_328, if_neg (show ¬ (4 : Int32) ≤ nI k from nI_ge (b := 4) (by omega) (by omega)), t1, i5 KF s x4 _ (by have := KF_ge; omega) (fun g hg => q1 (k + 1) g (by omega) hg) (q2 k (Nat.le_refl _) (by omega)) (q3 k (by omega)), j2 f _ x4 (by omega) (fun j g hj hg => by rw [wr_row (by omega)]; exact q1 j g hj hg) (fun j h1 h2 => by rw [wr_1, if_neg (by omega)]; exact q2 j (by omega) h2) (fun j hj he' s' es => q3 j hj he' s' (by rw [es, wr_row (by omega)]))]
      congr 2
      refine Prod.ext (funext fun a => funext fun j => ?_) rfl
      rw [wrow_1, wrow_1]
      by_cases z : a = 150
      · rw [if_pos z, if_pos z, wr_1]
        by_cases zk : j = 60 * r + k
        · rw [if_neg (by omega), if_pos ⟨rfl, zk⟩, if_pos (by omega)]
          exact (if_pos (show j - 60 * r = k by omega)).symm
        · by_cases zr : 60 * r + (k + 1) ≤ j ∧ j < 60 * r + 4
          · rw [if_pos zr, if_pos (by omega)]
            exact (if_neg (show ¬ j - 60 * r = k by omega)).symm
          · rw [if_neg zr, if_neg (fun w => zk w.2), if_neg (by omega)]
      · rw [if_neg z, if_neg z, wr_1, if_neg (fun w => z w.1)]
