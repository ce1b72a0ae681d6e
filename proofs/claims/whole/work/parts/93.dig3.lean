/-! ===== digest: plans, counts, all ===== -/
section INV
variable {h h' g s : TT} {P : Nat → Int32} {L : Nat} {w c : Nat → Int32} {x : Int64}
theorem ee_qf {k : Nat} : QF (EE h x) k = QF h k := by
  unfold QF
  rw [ee_r (by omega)]
theorem d_pl1 {k : Nat} (hk : k < 4) (X : PLX h k) (t : h.1 156 k = 1) : ∀ (d f f' y : Nat) (x : Int64), d < f → d < f' → y + d = gn (QF h k) 0 → ∃ x', f_X3_mixInto_43 h (25 + 4 * k) f x (nI y) = some x' ∧ ∀ kk, f_X8_mixBooks_124 kk f' (nI k) (nI y) (EE h x) = kk (nI (k + 1)) (EE h x') := by
  obtain ⟨hQ, p1, p2, p3, pp⟩ := pl_there X t
  have m8 := hQ.1.2.1
  have k26 : (26 : Int32) * nI k = nI (26 * k) := by rw [show (26 : Int32) = nI 26 from rfl, pk_mul]
  have q0 : h.1 157 (26 * k) = nI (gn (QF h k) 0) := hQ.2.1
  intro d
  induction d with
  | zero =>
    intro f f' y x hf hf' hy
    obtain ⟨f, rfl⟩ : ∃ g, f = g + 1 := ⟨f - 1, by omega⟩
    obtain ⟨f', rfl⟩ : ∃ g, f' = g + 1 := ⟨f' - 1, by omega⟩
    refine ⟨x, ?_, fun kk => ?_⟩
    · rw [f_X3_mixInto_43, p1, hQ.2.1, if_pos (nI_le (by omega) (by omega))]
    · rw [f_X8_mixBooks_124, k26, if_pos (inb_nI (by omega) (by decide)), nI_clamp (by omega), ee_r (by omega), q0, if_pos (nI_le (by omega) (by omega))]
      unfold f_X8_mixBooks_183
      rw [nI_1]
  | succ d ih =>
    intro f f' y x hf hf' hy
    obtain ⟨f, rfl⟩ : ∃ g, f = g + 1 := ⟨f - 1, by omega⟩
    obtain ⟨f', rfl⟩ : ∃ g, f' = g + 1 := ⟨f' - 1, by omega⟩
    obtain ⟨x', q1, q2⟩ := ih f f' (y + 1) (31 * (31 * x + (QF h k (2 + 3 * y)).toInt64) + (ctV (QF h k) y).toInt64) (by omega) (by omega) (by omega)
    refine ⟨x', ?_, fun kk => ?_⟩
    · rw [f_X3_mixInto_43, p1, hQ.2.1, if_neg (nI_ge (by omega) (by omega)), if_pos (inb_nI (by omega) (by decide)), nm_eq, c_ct X t (by omega), Option.bind_some, nm_eq, nI_clamp (by omega), show 25 + 4 * k + 1 = 26 + 4 * k by omega, (pp y (by omega)).1, nI_1]
      exact q1
    · rw [f_X8_mixBooks_124, k26, if_pos (inb_nI (by omega) (by decide)), nI_clamp (by omega), ee_r (by omega), q0, if_neg (nI_ge (by omega) (by omega)), if_pos (inb_nI hk (by decide)), nI_clamp (show k < 2 ^ 31 by omega), ee_r (by omega), if_neg (by rw [t]; decide), show nI (26 * k) + 2 + 3 * nI y = nI (26 * k + 2 + 3 * y) by rw [show (3 : Int32) = nI 3 from rfl, show (2 : Int32) = nI 2 from rfl, pk_mul, nI_add, nI_add], if_pos (inb_nI (by omega) (by decide)), nI_clamp (by omega), show h.1 157 (26 * k + 2 + 3 * y) = QF h k (2 + 3 * y) by unfold QF; rw [Nat.add_assoc], ee_mix, Option.bind_some, m_ct hk (by omega), ee_qf, Option.bind_some, ee_mix, Option.bind_some, nI_1]
      exact q2 kk
theorem d_pl2 {k : Nat} (hk : k < 4) (X : PLX h k) (t : h.1 156 k = 1) : ∀ (d f f' j : Nat) (x : Int64), d < f → d < f' → j + d = 4 → ∃ x', f_X3_mixInto_17 h (25 + 4 * k) f x (nI j) = some x' ∧ ∀ kk, f_X8_mixBooks_91 kk f' (nI k) (nI j) (EE h x) = kk (nI (k + 1)) (EE h x') := by
  obtain ⟨hQ, p1, p2, p3, pp⟩ := pl_there X t
  have m8 := hQ.1.2.1
  intro d
  induction d with
  | zero =>
    intro f f' j x hf hf' hj
    obtain ⟨f, rfl⟩ : ∃ g, f = g + 1 := ⟨f - 1, by omega⟩
    obtain ⟨f', rfl⟩ : ∃ g, f' = g + 1 := ⟨f' - 1, by omega⟩
    obtain rfl : j = 4 := by omega
    obtain ⟨y, q1, q2⟩ := d_pl1 hk X t (gn (QF h k) 0) KF KF 0 x (by have := KF_ge; omega) (by have := KF_ge; omega) (by omega)
    refine ⟨y, ?_, fun kk => ?_⟩
    · rw [f_X3_mixInto_17, if_pos (show (4 : Int32) ≤ nI 4 by decide), show (0 : Int32) = nI 0 from rfl, q1]
    · rw [f_X8_mixBooks_91, if_pos (show (4 : Int32) ≤ nI 4 by decide)]
      unfold f_X8_mixBooks_122
      rw [show (0 : Int32) = nI 0 from rfl]
      exact q2 kk
  | succ d ih =>
    intro f f' j x hf hf' hj
    obtain ⟨f, rfl⟩ : ∃ g, f = g + 1 := ⟨f - 1, by omega⟩
    obtain ⟨f', rfl⟩ : ∃ g, f' = g + 1 := ⟨f' - 1, by omega⟩
    obtain ⟨x', q1, q2⟩ := ih f f' (j + 1) (31 * x + (pfV (QF h k) (nI j)).toInt64) (by omega) (by omega) (by omega)
    refine ⟨x', ?_, fun kk => ?_⟩
    · rw [f_X3_mixInto_17, if_neg (show ¬ (4 : Int32) ≤ nI j from nI_ge (b := 4) (by omega) (by omega)), c_pf X t, Option.bind_some, nm_eq, nI_1]
      exact q1
    · have pf := m_pf (h := EE h x) (k := k) (by rw [ee_qf]; exact hQ) hk (nI j) ⟨nI_pos' (by omega), nI_le (b := 3) (by omega) (by omega)⟩
      rw [ee_qf] at pf
      rw [f_X8_mixBooks_91, if_neg (show ¬ (4 : Int32) ≤ nI j from nI_ge (b := 4) (by omega) (by omega)), if_pos (inb_nI hk (by decide)), nI_clamp (by omega), ee_r (by omega), if_neg (by rw [t]; decide), pf, Option.bind_some, ee_mix, Option.bind_some, nI_1]
      exact q2 kk
theorem d_pl {k : Nat} (hk : k < 4) (X : PLX h k) (x : Int64) : ∃ x', f_X3_mixInto h (25 + 4 * k) x = some x' ∧ ∀ kk, (if (EE h x).1 156 k = 0 then (f_X8_mix (EE h x) (-1 : Int64)).bind fun h5 => f_X8_mixBooks_89 kk (nI k) h5 else f_X8_mixBooks_89 kk (nI k) (EE h x)) = kk (nI (k + 1)) (EE h x') := by
  rcases pl_cs X with ⟨a, b⟩ | ⟨a, b⟩
  · refine ⟨31 * x + -1, ?_, fun kk => ?_⟩
    · unfold f_X3_mixInto
      rw [if_pos a, i64_m1]
    · rw [ee_r (by omega), if_pos b, ee_mix, Option.bind_some]
      unfold f_X8_mixBooks_89
      rw [show KF = 999 + 1 from rfl, f_X8_mixBooks_91, if_neg (show ¬ (4 : Int32) ≤ 0 by decide), if_pos (inb_nI hk (by decide)), nI_clamp (by omega), ee_r (by omega), if_pos b]
      unfold f_X8_mixBooks_122
      rw [show KF = 999 + 1 from rfl, f_X8_mixBooks_124, show (26 : Int32) * nI k = nI (26 * k) by rw [show (26 : Int32) = nI 26 from rfl, pk_mul], if_pos (inb_nI (by omega) (by decide)), if_pos (inb_nI hk (by decide)), nI_clamp (show k < 2 ^ 31 by omega), ee_r (show 156 ≠ 147 by omega), if_pos b, ite_self]
      unfold f_X8_mixBooks_183
      rw [nI_1]
  · obtain ⟨y, q1, q2⟩ := d_pl2 hk X b 4 KF KF 0 x (by decide) (by decide) (by omega)
    refine ⟨y, ?_, fun kk => ?_⟩
    · unfold f_X3_mixInto
      rw [if_neg (by rw [a]; decide), show (0 : Int32) = nI 0 from rfl, q1]
    · rw [ee_r (by omega), if_neg (by rw [b]; decide)]
      unfold f_X8_mixBooks_89
      rw [show (0 : Int32) = nI 0 from rfl]
      exact q2 kk
def TL (s : TT) : Option (Int64 × TT) := (f_X8_mixHouse s).bind fun h4 => f_X8_digest_41 KF (0 : Int32) h4
theorem d_b2 (hI : INV h) : ∀ (d f f' i : Nat) (x : Int64), d < f → d < f' → i + d = 4 → ∃ y, f_X7_digest_57 h f x (nI i) = some y ∧ (f_X8_mixBooks_68 f' (nI i) (EE h x)).bind TL = some (y, EE h y) := by
  intro d
  induction d with
  | zero =>
    intro f f' i x hf hf' hi
    obtain ⟨f, rfl⟩ : ∃ g, f = g + 1 := ⟨f - 1, by omega⟩
    obtain ⟨f', rfl⟩ : ∃ g, f' = g + 1 := ⟨f' - 1, by omega⟩
    obtain rfl : i = 4 := by omega
    obtain ⟨x', q1, q2⟩ := d_house hI.2.2.2.2.2 x
    obtain ⟨y, q3, q4⟩ := d_row hI.2.2.2.1 hI.2.2.2.2.1 6 KF KF 0 x' (by decide) (by decide) (by omega)
    refine ⟨y, ?_, ?_⟩
    · rw [f_X7_digest_57, if_pos (show (4 : Int32) ≤ nI 4 by decide), q1, Option.bind_some, show (0 : Int32) = nI 0 from rfl, q3]
    · rw [f_X8_mixBooks_68, if_pos (show (4 : Int32) ≤ nI 4 by decide), Option.bind_some]
      unfold TL
      rw [q2, Option.bind_some, show (0 : Int32) = nI 0 from rfl, q4]
  | succ d ih =>
    intro f f' i x hf hf' hi
    obtain ⟨f, rfl⟩ : ∃ g, f = g + 1 := ⟨f - 1, by omega⟩
    obtain ⟨f', rfl⟩ : ∃ g, f' = g + 1 := ⟨f' - 1, by omega⟩
    obtain ⟨x', q1, q2⟩ := d_pl (k := i) (by omega) (hI.2.2.2.2.2.2.1 i (by omega)) x
    obtain ⟨y, q3, q4⟩ := ih f f' (i + 1) x' (by omega) (by omega) (by omega)
    refine ⟨y, ?_, ?_⟩
    · rw [f_X7_digest_57, if_neg (show ¬ (4 : Int32) ≤ nI i from nI_ge (b := 4) (by omega) (by omega)), if_pos (inb_nI (by omega) (by decide)), nI_clamp (by omega), q1, Option.bind_some, nI_1]
      exact q3
    · rw [f_X8_mixBooks_68, if_neg (show ¬ (4 : Int32) ≤ nI i from nI_ge (b := 4) (by omega) (by omega)), if_pos (inb_nI (by omega) (by decide)), nI_clamp (by omega), q2 (f_X8_mixBooks_68 f')]
      exact q4
theorem d_b1 (hI : INV h) : ∀ (d f f' i : Nat) (x : Int64), d < f → d < f' → i + d = 4 → ∃ y, f_X7_digest_33 h f x (nI i) = some y ∧ (f_X8_mixBooks_2 f' (nI i) (EE h x)).bind TL = some (y, EE h y) := by
  intro d
  induction d with
  | zero =>
    intro f f' i x hf hf' hi
    obtain ⟨f, rfl⟩ : ∃ g, f = g + 1 := ⟨f - 1, by omega⟩
    obtain ⟨f', rfl⟩ : ∃ g, f' = g + 1 := ⟨f' - 1, by omega⟩
    obtain rfl : i = 4 := by omega
    obtain ⟨y, q3, q4⟩ := d_b2 hI 4 KF KF 0 x (by decide) (by decide) (by omega)
    refine ⟨y, ?_, ?_⟩
    · rw [f_X7_digest_33, if_pos (show (4 : Int32) ≤ nI 4 by decide), show (0 : Int32) = nI 0 from rfl, q3]
    · rw [f_X8_mixBooks_2, if_pos (show (4 : Int32) ≤ nI 4 by decide), show (0 : Int32) = nI 0 from rfl, q4]
  | succ d ih =>
    intro f f' i x hf hf' hi
    obtain ⟨f, rfl⟩ : ∃ g, f = g + 1 := ⟨f - 1, by omega⟩
    obtain ⟨f', rfl⟩ : ∃ g, f' = g + 1 := ⟨f' - 1, by omega⟩
    obtain ⟨x', q1, q2⟩ := d_sn (k := i) (by omega) (hI.2.2.2.2.2.1 i (by omega)) x
    obtain ⟨y, q3, q4⟩ := ih f f' (i + 1) x' (by omega) (by omega) (by omega)
    refine ⟨y, ?_, ?_⟩
    · rw [f_X7_digest_33, if_neg (show ¬ (4 : Int32) ≤ nI i from nI_ge (b := 4) (by omega) (by omega)), if_pos (inb_nI (by omega) (by decide)), nI_clamp (by omega), q1, Option.bind_some, nI_1]
      exact q3
    · rw [f_X8_mixBooks_2, if_neg (show ¬ (4 : Int32) ≤ nI i from nI_ge (b := 4) (by omega) (by omega)), if_pos (inb_nI (by omega) (by decide)), nI_clamp (by omega), q2 (f_X8_mixBooks_2 f')]
      exact q4
theorem c4_s (es : ∀ i, i ≠ 147 → s.1 i = h.1 i) {n : Nat} : c4B s n = c4B h n := by
  funext k
  unfold c4B
  rw [es 154 (by omega), es 156 (by omega), es 160 (by omega), es 152 (by omega)]
theorem c6_s (es : ∀ i, i ≠ 147 → s.1 i = h.1 i) {n : Nat} : c6B s n = c6B h n := by
  funext k
  unfold c6B
  rw [es 149 (by omega)]
theorem c_count2 (hI : INV h) {n : Nat} (hn : n < 8) : ∃ a, f_X7_counted h (nI n) = some (nI a) ∧ ∀ s : TT, (∀ i, i ≠ 147 → s.1 i = h.1 i) → f_X8_counted s (nI n) = some (nI a, lk0 s) := by
  have x := hI.2.2.2.2.2
  have rr := hI.2.2.2.1
  have rt := hI.2.2.2.2.1
  have S : f_X7_snowsThere h = some (nI (cnt (c4B h 0) 4)) := c_sn4 x.1 4 KF 0 (by omega) (by decide)
  have Pp : f_X7_plansThere h = some (nI (cnt (c4B h 1) 4)) := c_pt x.2.1
  have K : f_X7_kept h = some (nI (cnt (c4B h 5) 4)) := c_kp4 x.2.2.2 3 KF 0 (by omega) (by decide)
  have Z : f_X7_sizesThere h 8 6 = some (nI (cnt (c6B h 6) 6)) := by
    have q := c_sz4 (h := h) (o0 := 8) (n0 := 6) (by omega) 6 KF 0 (by omega) (by decide)
    rw [show cnt (fun k => !decide (h.1 8 k < 0)) 6 = cnt (c6B h 6) 6 from cnt_congr fun k hk => by rw [(rr k hk).1]; rfl] at q
    exact q
  have T : f_X7_sizesThere h 14 4 = some (nI (cnt (c4B h 7) 4)) := by
    have q := c_sz4 (h := h) (o0 := 14) (n0 := 4) (by omega) 4 KF 0 (by omega) (by decide)
    rw [show cnt (fun k => !decide (h.1 14 k < 0)) 4 = cnt (c4B h 7) 4 from cnt_congr fun k hk => by rw [(rt k hk).1]; rfl] at q
    exact q
  have hk : ∃ a2 a3 a4 : Nat, h.1 41 4 = nI a2 ∧ h.1 41 5 = nI a3 ∧ f_X0_standingFirsts h 41 = some (nI a4) ∧ ∀ m, m < 8 → ∀ s : TT, (∀ i, i ≠ 147 → s.1 i = h.1 i) → f_X8_counted s (nI m) = some (nI (cnt (c4B h m) 4 + cnt (c6B h m) 6 + (if m = 2 then a2 else if m = 3 then a3 else 0) + (if m = 4 then a4 else 0)), lk0 s) := by
    rcases home x with ⟨-, z1, z2, z3⟩ | ⟨-, z1, P, L, w, c, H⟩
    · refine ⟨0, 0, 0, z2, z3, c_sf0 z2, fun m hm s es => ?_⟩
      rw [m_count0 (h := s) (by rw [es 160 (by omega)]; exact z1) hm, c4_s es, c6_s es, ite_self, ite_self, ite_self, Nat.add_zero]
    · refine ⟨L, cnt (fB w) L, cnt (f4B w 4) (min (zF P 0) L), H.2.2.1.1, ?_, c_sf4 H (min (zF P 0) L) KF 0 (by omega) (by have := KF_ge; have := H.1.a60; have := H.2.2.2.1.1; omega), fun m hm s es => ?_⟩
      · rw [← cnt_L H.2.2.2.1]
        exact H.2.2.1.2.1
      · rw [m_count1 (h := s) (H.fr (fun j hj => es _ (by omega)) (fun j hj => by rw [es 161 (by omega)])) (by rw [es 160 (by omega)]; exact z1) hm, c4_s es, c6_s es]
        unfold hcN
        by_cases e4 : m = 4
        · subst e4
          rw [if_pos rfl]
        · rw [f4_none e4, if_neg e4]
  obtain ⟨a2, a3, a4, k2, k3, k4, k⟩ := hk
  rcases (show n = 0 ∨ n = 1 ∨ n = 2 ∨ n = 3 ∨ n = 4 ∨ n = 5 ∨ n = 6 ∨ n = 7 by omega) with rfl | rfl | rfl | rfl | rfl | rfl | rfl | rfl
  · refine ⟨cnt (c4B h 0) 4, ?_, fun s es => ?_⟩
    · unfold f_X7_counted
      rw [if_pos (show nI 0 = 0 by decide), S]
      rfl
    · rw [k _ hn s es, c6_none (by decide)]
      first | rfl | (congr 2; simp) | simp
  · refine ⟨cnt (c4B h 1) 4, ?_, fun s es => ?_⟩
    · unfold f_X7_counted
      rw [if_neg (show ¬ nI 1 = 0 by decide), if_pos (show nI 1 = 1 by decide), Pp]
      rfl
    · rw [k _ hn s es, c6_none (by decide)]
      first | rfl | (congr 2; simp) | simp
  · refine ⟨a2, ?_, fun s es => ?_⟩
    · unfold f_X7_counted
      rw [if_neg (show ¬ nI 2 = 0 by decide), if_neg (show ¬ nI 2 = 1 by decide), if_pos (show nI 2 = 2 by decide), k2]
    · rw [k _ hn s es, c4_none (by decide) (by decide) (by decide) (by decide), c6_none (by decide)]
      first | rfl | (congr 2; simp) | simp
  · refine ⟨a3, ?_, fun s es => ?_⟩
    · unfold f_X7_counted
      rw [if_neg (show ¬ nI 3 = 0 by decide), if_neg (show ¬ nI 3 = 1 by decide), if_neg (show ¬ nI 3 = 2 by decide), if_pos (show nI 3 = 3 by decide), k3]
    · rw [k _ hn s es, c4_none (by decide) (by decide) (by decide) (by decide), c6_none (by decide)]
      first | rfl | (congr 2; simp) | simp
  · refine ⟨a4, ?_, fun s es => ?_⟩
    · unfold f_X7_counted
      rw [if_neg (show ¬ nI 4 = 0 by decide), if_neg (show ¬ nI 4 = 1 by decide), if_neg (show ¬ nI 4 = 2 by decide), if_neg (show ¬ nI 4 = 3 by decide), if_pos (show nI 4 = 4 by decide), k4]
      rfl
    · rw [k _ hn s es, c4_none (by decide) (by decide) (by decide) (by decide), c6_none (by decide)]
      first | rfl | (congr 2; simp) | simp
  · refine ⟨cnt (c4B h 5) 4, ?_, fun s es => ?_⟩
    · unfold f_X7_counted
      rw [if_neg (show ¬ nI 5 = 0 by decide), if_neg (show ¬ nI 5 = 1 by decide), if_neg (show ¬ nI 5 = 2 by decide), if_neg (show ¬ nI 5 = 3 by decide), if_neg (show ¬ nI 5 = 4 by decide), if_pos (show nI 5 = 5 by decide), K]
      rfl
    · rw [k _ hn s es, c6_none (by decide)]
      first | rfl | (congr 2; simp) | simp
  · refine ⟨cnt (c6B h 6) 6, ?_, fun s es => ?_⟩
    · unfold f_X7_counted
      rw [if_neg (show ¬ nI 6 = 0 by decide), if_neg (show ¬ nI 6 = 1 by decide), if_neg (show ¬ nI 6 = 2 by decide), if_neg (show ¬ nI 6 = 3 by decide), if_neg (show ¬ nI 6 = 4 by decide), if_neg (show ¬ nI 6 = 5 by decide), if_pos (show nI 6 = 6 by decide), Z]
      rfl
    · rw [k _ hn s es, c4_none (by decide) (by decide) (by decide) (by decide)]
      first | rfl | (congr 2; simp) | simp
  · refine ⟨cnt (c4B h 7) 4, ?_, fun s es => ?_⟩
    · unfold f_X7_counted
      rw [if_neg (show ¬ nI 7 = 0 by decide), if_neg (show ¬ nI 7 = 1 by decide), if_neg (show ¬ nI 7 = 2 by decide), if_neg (show ¬ nI 7 = 3 by decide), if_neg (show ¬ nI 7 = 4 by decide), if_neg (show ¬ nI 7 = 5 by decide), if_neg (show ¬ nI 7 = 6 by decide), T]
      rfl
    · rw [k _ hn s es, c6_none (by decide)]
      first | rfl | (congr 2; simp) | simp
theorem d_c {i : Nat} (hI : INV h) (hi : i < 8) (x : Int64) : ∃ x', (∀ f, f_X7_digest_6 h (f + 1) x (nI i) = f_X7_digest_6 h f x' (nI (i + 1))) ∧ ∀ f s, (∀ i, i ≠ 147 → s.1 i = h.1 i) → lk0 s = EE h x → f_X8_digest_9 (f + 1) (nI i) s = f_X8_digest_9 f (nI (i + 1)) (EE h x') := by
  obtain ⟨a, q1, q2⟩ := c_count2 hI hi
  refine ⟨31 * x + (nI a).toInt64, fun f => ?_, fun f s es el => ?_⟩
  · rw [f_X7_digest_6, if_neg (show ¬ (8 : Int32) ≤ nI i from nI_ge (b := 8) (by omega) (by omega)), q1, Option.bind_some, nm_eq, nI_1]
  · rw [f_X8_digest_9, if_neg (show ¬ (8 : Int32) ≤ nI i from nI_ge (b := 8) (by omega) (by omega)), q2 s es, Option.bind_some, el, ee_mix, Option.bind_some, nI_1]
theorem d_cs (hI : INV h) : ∀ (d f f' i : Nat) (x : Int64), d < f → d < f' → i + d = 8 → ∃ y, f_X7_digest_6 h f x (nI i) = some y ∧ f_X8_digest_9 f' (nI i) (EE h x) = some (y, EE h y) := by
  intro d
  induction d with
  | zero =>
    intro f f' i x hf hf' hi
    obtain ⟨f, rfl⟩ : ∃ g, f = g + 1 := ⟨f - 1, by omega⟩
    obtain ⟨f', rfl⟩ : ∃ g, f' = g + 1 := ⟨f' - 1, by omega⟩
    obtain rfl : i = 8 := by omega
    obtain ⟨y, q3, q4⟩ := d_b1 hI 4 KF KF 0 x (by decide) (by decide) (by omega)
    refine ⟨y, ?_, ?_⟩
    · rw [f_X7_digest_6, if_pos (show (8 : Int32) ≤ nI 8 by decide), show (0 : Int32) = nI 0 from rfl, q3]
    · rw [f_X8_digest_9, if_pos (show (8 : Int32) ≤ nI 8 by decide)]
      exact q4
  | succ d ih =>
    intro f f' i x hf hf' hi
    obtain ⟨f, rfl⟩ : ∃ g, f = g + 1 := ⟨f - 1, by omega⟩
    obtain ⟨f', rfl⟩ : ∃ g, f' = g + 1 := ⟨f' - 1, by omega⟩
    obtain ⟨x', q1, q2⟩ := d_c (i := i) hI (by omega) x
    obtain ⟨y, q3, q4⟩ := ih f f' (i + 1) x' (by omega) (by omega) (by omega)
    exact ⟨y, by rw [q1]; exact q3, by rw [q2 f' _ (fun i hi => ee_r hi) ee_lk]; exact q4⟩
theorem inv_ee (hI : INV h) : INV (EE h x) := by
  refine inv_gen XX_fr hI ⟨fun i k e _ _ => ?_, fun i k e => ?_⟩ ?_
  · show (lk0 h).1 i k = _
    unfold lk0
    rw [wr_1, if_neg (fun z => e (by unfold Scr; omega))]
  · unfold EE
    rw [wrl_2, if_neg e]
    rfl
  · show (lk0 h).1 0 13 = (lk0 h).1 147 2
    unfold lk0
    rw [wr_1, if_neg (by omega), wr_1, if_neg (by omega)]
    exact hI.1
theorem st_digest : ST_digest INV := by
  intro h hI
  obtain ⟨x', q1, q2⟩ := d_c (i := 0) hI (by omega) 17
  obtain ⟨y, q3, q4⟩ := d_cs hI 7 999 999 1 x' (by omega) (by omega) (by omega)
  refine ⟨y, EE h y, ?_, ?_, inv_ee hI⟩
  · unfold f_X7_digest
    rw [show KF = 999 + 1 from rfl, show (0 : Int32) = nI 0 from rfl, q1]
    exact q3
  · unfold f_X8_digest
    rw [nm_eq, show KF = 999 + 1 from rfl, show (0 : Int32) = nI 0 from rfl, q2 999 (wrl h 147 28 17) (fun i _ => rfl) rfl]
    exact q4
end INV
