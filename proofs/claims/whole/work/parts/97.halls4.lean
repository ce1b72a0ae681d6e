/-! ===== halls: one plan's share ===== -/
theorem r_shr {k e b r G : Nat} {up : Nat → Nat} (hk : k < 4) (hr : r < 6) (hG : G ≤ 40) (he : e ≤ 1000) (hb : b ≤ 60) (hu : ∀ g, g ≤ 40 → up g ≤ 1000000) : ∀ (d y x5 c0 : Nat), y ≤ d → y ≤ G → x5 + y ≤ 40 → ∃ y' c1 : Nat, y' ≤ y ∧ c1 ≤ c0 + y ∧ fwR e b up y' = up y' ∧ (∀ (f : Nat) (s : TT) (k10 : Int32 → Int32 → TT → Option TT), d < f → (∀ g, g ≤ 40 → s.1 (140 + k) g = nI (fwR e b up g)) → (∀ g, g ≤ 40 → s.1 (140 + (k + 1)) g = nI (up g)) → s.1 145 k = nI e → s.1 (2 + r) k = nI c0 → f_X1_share_31 (2 + r) 60 k10 f (nI y) (nI k) (nI x5) s = k10 (nI y') (nI (k + 1)) (wr s (2 + r) k (nI c1))) ∧ ∀ (f : Nat) (s : TT) (x4 : Int32) (k328 : Int32 → Int32 → Int32 → Int32 → Int32 → TT → Option (Int32 × TT)), d < f → (∀ g, g ≤ G → s.1 162 (41 * (k + 1) + g) = nI (up g)) → s.1 150 (60 * r + k) = nI c0 → (e ≠ 0 → ∀ s' : TT, s'.1 157 = s.1 157 → f_X8_planBlocks s' (nI k) = some (nI b) ∧ f_X8_planPlaces s' (nI k) = some (nI e)) → f_X8_halls_334 k328 f (nI r) x4 (nI y) (nI (fwR e b up y)) (nI k) s = k328 (nI r) x4 (nI y') (nI (up y')) (nI (k + 1)) (wr s 150 (60 * r + k) (nI c1)) := by
  have k41 : ∀ a g : Nat, (41 : Int32) * nI a + nI g = nI (41 * a + g) := fun a g => by rw [show (41 : Int32) = nI 41 from rfl, pk_mul, nI_add]
  intro d
  induction d with
  | zero =>
    intro y x5 c0 h1 h2 h3
    obtain rfl : y = 0 := by omega
    refine ⟨0, c0, Nat.le_refl _, by omega, fwR_0 (Or.inl rfl), fun f s k10 hf q1 q2 q3 q4 => ?_, fun f s x4 k328 hf q1 q2 q3 => ?_⟩
    · obtain ⟨f, rfl⟩ : ∃ g, f = g + 1 := ⟨f - 1, by omega⟩
      rw [f_X1_share_31, if_pos (show nI 0 ≤ 0 by decide), ite_self]
      unfold f_X1_share_96
      rw [nI_1, wr_id q4]
    · obtain ⟨f, rfl⟩ : ∃ g, f = g + 1 := ⟨f - 1, by omega⟩
      rw [f_X8_halls_334, nI_1, k41, if_pos (inb_nI (by omega) (by decide)), nI_clamp (by omega), q1 0 (by omega), fwR_0 (Or.inl rfl), if_pos rfl, wr_id q2]
  | succ d ih =>
    intro y x5 c0 h1 h2 h3
    have u1 := hu y (by omega)
    have u0 : fwR e b up y ≤ up y := fwR_le
    by_cases z : fwR e b up y = up y
    · refine ⟨y, c0, Nat.le_refl _, by omega, z, fun f s k10 hf q1 q2 q3 q4 => ?_, fun f s x4 k328 hf q1 q2 q3 => ?_⟩
      · obtain ⟨f, rfl⟩ : ∃ g, f = g + 1 := ⟨f - 1, by omega⟩
        rw [f_X1_share_31, if_pos (inb_nI (show k < 5 by omega) (by decide)), if_pos (inb_nI (show y < 41 by omega) (by decide)), if_pos (inb_nI (show y < 41 by omega) (by decide)), nI_1, if_pos (inb_nI (show k + 1 < 5 by omega) (by decide)), nI_clamp (show k < 2 ^ 31 by omega), nI_clamp (show y < 2 ^ 31 by omega), nI_clamp (show k + 1 < 2 ^ 31 by omega), q1 y (by omega), q2 y (by omega), z, if_pos rfl, ite_self, ite_self]
        unfold f_X1_share_96
        rw [nI_1, wr_id q4]
      · obtain ⟨f, rfl⟩ : ∃ g, f = g + 1 := ⟨f - 1, by omega⟩
        rw [f_X8_halls_334, nI_1, k41, if_pos (inb_nI (by omega) (by decide)), nI_clamp (by omega), q1 y (by omega), z, if_pos rfl, wr_id q2]
    · have ze : ¬ (y = 0 ∨ e = 0) := fun w => z (fwR_0 w)
      have zw : fwR e b up y = b + fwR e b up (y - e) := by
        have w := fwR_1 (b := b) (up := up) ze
        omega
      obtain ⟨y', c1, i1, i2, i3, i4, i5⟩ := ih (y - e) (x5 + 1) (c0 + 1) (by omega) (by omega) (by omega)
      refine ⟨y', c1, by omega, by omega, i3, fun f s k10 hf q1 q2 q3 q4 => ?_, fun f s x4 k328 hf q1 q2 q3 => ?_⟩
      · obtain ⟨f, rfl⟩ : ∃ g, f = g + 1 := ⟨f - 1, by omega⟩
        rw [f_X1_share_31, if_neg (show ¬ (40 : Int32) ≤ nI x5 from nI_ge (b := 40) (by omega) (by omega)), if_neg (show ¬ nI y ≤ 0 from nI_nle (by omega) (by omega)), if_pos (inb_nI (show k < 5 by omega) (by decide)), if_pos (inb_nI (show y < 41 by omega) (by decide)), nI_1 k, if_pos (inb_nI (show k + 1 < 5 by omega) (by decide)), if_pos (inb_nI (show y < 41 by omega) (by decide)), nI_clamp (show k < 2 ^ 31 by omega), nI_clamp (show y < 2 ^ 31 by omega), nI_clamp (show k + 1 < 2 ^ 31 by omega), q1 y (by omega), q2 y (by omega), if_neg (fun w => z ((nI_eq (by omega) (by omega)).mp w)), if_pos (inb_nI (show k < 60 by omega) (by decide)), if_pos (inb_nI (show k < 60 by omega) (by decide)), nm_eq, q4, nI_1 c0, if_pos (inb_nI hk (by decide)), nm_eq, wr_row (show 145 ≠ 2 + r by omega), q3, imax_nI (by omega) (by omega), nI_1 x5, i4 f _ k10 (by omega) (fun g hg => by rw [wr_row (by omega)]; exact q1 g hg) (fun g hg => by rw [wr_row (by omega)]; exact q2 g hg) (by rw [wr_row (by omega)]; exact q3) (by rw [wr_1, if_pos ⟨rfl, rfl⟩]), wr_ww]
      · obtain ⟨f, rfl⟩ : ∃ g, f = g + 1 := ⟨f - 1, by omega⟩
        have q3' := q3 (fun w => ze (Or.inr w))
        rw [f_X8_halls_334, nI_1 k, k41, if_pos (inb_nI (by omega) (by decide)), nI_clamp (by omega), q1 y (by omega), if_neg (fun w => z ((nI_eq (by omega) (by omega)).mp w).symm), k60, if_pos (inb_nI (by omega) (by decide)), if_pos (inb_nI (by omega) (by decide)), nI_clamp (by omega), nm_eq, q2, nI_1 c0, (q3' _ (wr_row (by omega))).2, Option.bind_some, m_gre (by omega) (by omega), Option.bind_some, (q3' _ (wr_row (by omega))).1, Option.bind_some, nm_eq, zw, pk_sub (by omega), show b + fwR e b up (y - e) - b = fwR e b up (y - e) by omega, i5 f _ x4 k328 (by omega) (fun g hg => by rw [wr_row (by omega)]; exact q1 g hg) (by rw [wr_1, if_pos ⟨rfl, rfl⟩]) (fun w s' es => q3' s' (by rw [es, wr_row (by omega)])), wr_ww]
