/-! ===== count: the class ===== -/
section INV
variable {h h' g s : TT} {P : Nat → Int32} {L : Nat} {w c : Nat → Int32}
theorem c_sn4 (x : ∀ k, k < 4 → SNX h k) : ∀ (d f i : Nat), i + d = 4 → d < f → f_X7_snowsThere_4 h  f (nI (cnt (fun k => !decide (h.1 154 k = 0)) i)) (nI i) = some (nI (cnt (fun k => !decide (h.1 154 k = 0)) 4)) := by
  intro d
  induction d with
  | zero =>
    intro f i hi hf
    obtain ⟨f, rfl⟩ : ∃ g, f = g + 1 := ⟨f - 1, by omega⟩
    obtain rfl : i = 4 := by omega
    rw [f_X7_snowsThere_4, if_pos (by decide)]
  | succ d ih =>
    intro f i hi hf
    obtain ⟨f, rfl⟩ : ∃ g, f = g + 1 := ⟨f - 1, by omega⟩
    have q := ih f (i + 1) (by omega) (by omega)
    rw [cnt] at q
    rw [f_X7_snowsThere_4, if_neg (show ¬ (4 : Int32) ≤ nI i from nI_ge (b := 4) (by omega) (by omega)), if_pos (inb_nI (by omega) (by decide)), nI_clamp (by omega), (x i (by omega)).1]
    unfold f_X7_snowsThere_24
    rw [nI_1]
    by_cases e : h.1 154 i = 0
    · rw [decide_eq_true e, if_neg (show ¬ (!true) = true by decide)] at q
      rw [if_pos e]
      exact q
    · rw [decide_eq_false e, if_pos (show (!false) = true by decide)] at q
      rw [if_neg e, nI_1]
      exact q
theorem c_kp4 (x : ∀ k, k < 3 → HX h (59 + 17 * k) (1 + k)) : ∀ (d f i : Nat), i + d = 3 → d < f → f_X7_kept_4 h  f (nI (cnt (fun k => !decide (h.1 160 (1 + k) = 0)) i)) (nI i) = some (nI (cnt (fun k => !decide (h.1 160 (1 + k) = 0)) 3)) := by
  intro d
  induction d with
  | zero =>
    intro f i hi hf
    obtain ⟨f, rfl⟩ : ∃ g, f = g + 1 := ⟨f - 1, by omega⟩
    obtain rfl : i = 3 := by omega
    rw [f_X7_kept_4, if_pos (by decide)]
  | succ d ih =>
    intro f i hi hf
    obtain ⟨f, rfl⟩ : ∃ g, f = g + 1 := ⟨f - 1, by omega⟩
    have q := ih f (i + 1) (by omega) (by omega)
    rw [cnt] at q
    rw [f_X7_kept_4, if_neg (show ¬ (3 : Int32) ≤ nI i from nI_ge (b := 3) (by omega) (by omega)), if_pos (inb_nI (by omega) (by decide)), nI_clamp (by omega), (x i (by omega)).1]
    unfold f_X7_kept_24
    rw [nI_1]
    by_cases e : h.1 160 (1 + i) = 0
    · rw [decide_eq_true e, if_neg (show ¬ (!true) = true by decide)] at q
      rw [if_pos e]
      exact q
    · rw [decide_eq_false e, if_pos (show (!false) = true by decide)] at q
      rw [if_neg e, nI_1]
      exact q
theorem c_sz4 {o0 n0 : Nat} (hn : n0 ≤ 60) : ∀ (d f i : Nat), i + d = n0 → d < f → f_X7_sizesThere_4 h o0 n0 f (nI (cnt (fun k => !decide (h.1 o0 k < 0)) i)) (nI i) = some (nI (cnt (fun k => !decide (h.1 o0 k < 0)) n0)) := by
  intro d
  induction d with
  | zero =>
    intro f i hi hf
    obtain ⟨f, rfl⟩ : ∃ g, f = g + 1 := ⟨f - 1, by omega⟩
    obtain rfl : i = n0 := by omega
    rw [f_X7_sizesThere_4, if_pos (nI_le (Nat.le_refl _) (by omega))]
  | succ d ih =>
    intro f i hi hf
    obtain ⟨f, rfl⟩ : ∃ g, f = g + 1 := ⟨f - 1, by omega⟩
    have q := ih f (i + 1) (by omega) (by omega)
    rw [cnt] at q
    rw [f_X7_sizesThere_4, if_neg (show ¬ (nI n0) ≤ nI i from nI_ge (b := n0) (by omega) (by omega)), if_pos (inb_nI (by omega) (by omega)), nI_clamp (by omega)]
    unfold f_X7_sizesThere_19
    rw [nI_1]
    by_cases e : h.1 o0 i < 0
    · rw [decide_eq_true e, if_neg (show ¬ (!true) = true by decide)] at q
      rw [if_pos e]
      exact q
    · rw [decide_eq_false e, if_pos (show (!false) = true by decide)] at q
      rw [if_neg e, nI_1]
      exact q
theorem c_sf4 (H : HOk h 41 0 P L w c) : ∀ (d f i : Nat), i + d = min (zF P 0) L → d < f → f_X0_standingFirsts_4 h 41 f (nI (cnt (f4B w 4) i)) (nI i) = some (nI (cnt (f4B w 4) (min (zF P 0) L))) := by
  have h60 := H.1.a60
  have hL := H.2.2.2.1.1
  have m1 := H.1.1.1
  have z := H.1.1.2.2.1 0 (by omega)
  have l4 : h.1 41 4 = nI L := H.2.2.1.1
  have z0 : h.1 (41 + 3 + 2) 0 = nI (zF P 0) := (H.2.1.2.2.2.2.2.2.2.2.1 0 (by omega)).2.1.trans (H.1.2.2.2.2.2.2.2 0 (by omega)).1
  intro d
  induction d with
  | zero =>
    intro f i hi hf
    obtain ⟨f, rfl⟩ : ∃ g, f = g + 1 := ⟨f - 1, by omega⟩
    rw [f_X0_standingFirsts_4, l4]
    unfold f_X0_standingFirsts_44
    by_cases e : L ≤ i
    · rw [if_pos (nI_le e (by omega)), show i = min (zF P 0) L by omega]
    · rw [if_neg (nI_ge (by omega) (by omega)), if_pos (show inb 0 8 = true by decide), tn0, z0, if_pos (nI_le (by omega) (by omega)), show i = min (zF P 0) L by omega]
  | succ d ih =>
    intro f i hi hf
    obtain ⟨f, rfl⟩ : ∃ g, f = g + 1 := ⟨f - 1, by omega⟩
    have q := ih f (i + 1) (by omega) (by omega)
    rw [cnt] at q
    have s7 : h.1 (41 + 7) i = sV L w c i := (H.2.2.1.2.2.2.1 i (by omega)).1
    rw [f_X0_standingFirsts_4, l4, if_neg (nI_ge (by omega) (by omega)), if_pos (show inb 0 8 = true by decide), tn0, z0, if_neg (nI_ge (by omega) (by omega)), if_pos (inb_nI (by omega) (by decide)), nI_clamp (by omega), s7]
    unfold f_X0_standingFirsts_38 sV
    rw [nI_1 i, if_pos (show i < L by omega)]
    by_cases e : w i = -9
    · rw [show f4B w 4 i = true by unfold f4B fB; rw [decide_eq_true e]; rfl] at q
      have n2 : ¬ (if c i = 1 then (3 : Int32) else 1) = 2 := by
        by_cases e1 : c i = 1
        · rw [if_pos e1]; decide
        · rw [if_neg e1]; decide
      rw [if_pos e, if_neg n2, nI_1]
      exact q
    · rw [show f4B w 4 i = false by unfold f4B fB; rw [decide_eq_false e]; rfl] at q
      rw [if_neg e, if_pos rfl]
      exact q
theorem c_sf0 (z : h.1 41 4 = 0) : f_X0_standingFirsts h 41 = some (nI 0) := by
  unfold f_X0_standingFirsts
  rw [show KF = 999 + 1 from rfl, f_X0_standingFirsts_4, z, if_pos (by decide)]
  rfl
theorem c4_none {n : Nat} (h0 : n ≠ 0) (h1 : n ≠ 1) (h5 : n ≠ 5) (h7 : n ≠ 7) : cnt (c4B h n) 4 = 0 := cnt_zero.mpr fun k _ => by unfold c4B; rw [if_neg h0, if_neg h1, if_neg h5, if_neg h7]
theorem c6_none {n : Nat} (h6 : n ≠ 6) : cnt (c6B h n) 6 = 0 := cnt_zero.mpr fun k _ => by unfold c6B; rw [if_neg h6]
theorem f4_none {n : Nat} (h4 : n ≠ 4) (m : Nat) : cnt (f4B w n) m = 0 := cnt_zero.mpr fun k _ => by unfold f4B; rw [decide_eq_false h4]; rfl
theorem hc_none {n : Nat} (h2 : n ≠ 2) (h3 : n ≠ 3) : hcN L w n = 0 := by unfold hcN; rw [if_neg h2, if_neg h3]
theorem c_count (hI : INV h) {n : Nat} (hn : n < 8) : ∃ a, f_X7_counted h (nI n) = some (nI a) ∧ f_X8_counted h (nI n) = some (nI a, lk0 h) := by
  have x := hI.2.2.2.2.2
  have rr := hI.2.2.2.1
  have rt := hI.2.2.2.2.1
  have S : f_X7_snowsThere h = some (nI (cnt (c4B h 0) 4)) := c_sn4 x.1 4 KF 0 (by omega) (by decide)
  have Pp : f_X7_plansThere h = some (nI (cnt (c4B h 1) 4)) := c_pt x.2.1
  have K : f_X7_kept h = some (nI (cnt (c4B h 5) 4)) := c_kp4 x.2.2.2 3 KF 0 (by omega) (by decide)
  have Z : f_X7_sizesThere h 8 6 = some (nI (cnt (c6B h 6) 6)) := by
    have q := c_sz4 (h := h) (o0 := 8) (n0 := 6) (by omega) 6 KF 0 (by omega) (by decide)
    rw [show cnt (fun k => !decide (h.1 8 k < 0)) 6 = cnt (c6B h 6) 6 from cnt_congr fun k hk => by rw [(rr k hk).1]; rfl] at q
    exact q
  have T : f_X7_sizesThere h 14 4 = some (nI (cnt (c4B h 7) 4)) := by
    have q := c_sz4 (h := h) (o0 := 14) (n0 := 4) (by omega) 4 KF 0 (by omega) (by decide)
    rw [show cnt (fun k => !decide (h.1 14 k < 0)) 4 = cnt (c4B h 7) 4 from cnt_congr fun k hk => by rw [(rt k hk).1]; rfl] at q
    exact q
  have hk : ∃ a2 a3 a4 : Nat, h.1 41 4 = nI a2 ∧ h.1 41 5 = nI a3 ∧ f_X0_standingFirsts h 41 = some (nI a4) ∧ ∀ m, m < 8 → f_X8_counted h (nI m) = some (nI (cnt (c4B h m) 4 + cnt (c6B h m) 6 + (if m = 2 then a2 else if m = 3 then a3 else 0) + (if m = 4 then a4 else 0)), lk0 h) := by
    rcases home x with ⟨-, z1, z2, z3⟩ | ⟨-, z1, P, L, w, c, H⟩
    · refine ⟨0, 0, 0, z2, z3, c_sf0 z2, fun m hm => ?_⟩
      rw [m_count0 z1 hm, ite_self, ite_self, ite_self, Nat.add_zero]
    · refine ⟨L, cnt (fB w) L, cnt (f4B w 4) (min (zF P 0) L), H.2.2.1.1, ?_, c_sf4 H (min (zF P 0) L) KF 0 (by omega) (by have := KF_ge; have := H.1.a60; have := H.2.2.2.1.1; omega), fun m hm => ?_⟩
      · rw [← cnt_L H.2.2.2.1]
        exact H.2.2.1.2.1
      · rw [m_count1 H z1 hm]
        unfold hcN
        by_cases e4 : m = 4
        · subst e4
          rw [if_pos rfl]
        · rw [f4_none e4, if_neg e4]
  obtain ⟨a2, a3, a4, k2, k3, k4, k⟩ := hk
  rw [k n hn]
  rcases (show n = 0 ∨ n = 1 ∨ n = 2 ∨ n = 3 ∨ n = 4 ∨ n = 5 ∨ n = 6 ∨ n = 7 by omega) with rfl | rfl | rfl | rfl | rfl | rfl | rfl | rfl
  · refine ⟨cnt (c4B h 0) 4, ?_, ?_⟩
    · unfold f_X7_counted
      rw [if_pos (show nI 0 = 0 by decide), S]
      rfl
    · rw [c6_none (by decide)]
      first | rfl | (congr 2; simp) | simp
  · refine ⟨cnt (c4B h 1) 4, ?_, ?_⟩
    · unfold f_X7_counted
      rw [if_neg (show ¬ nI 1 = 0 by decide), if_pos (show nI 1 = 1 by decide), Pp]
      rfl
    · rw [c6_none (by decide)]
      first | rfl | (congr 2; simp) | simp
  · refine ⟨a2, ?_, ?_⟩
    · unfold f_X7_counted
      rw [if_neg (show ¬ nI 2 = 0 by decide), if_neg (show ¬ nI 2 = 1 by decide), if_pos (show nI 2 = 2 by decide), k2]
    · rw [c4_none (by decide) (by decide) (by decide) (by decide), c6_none (by decide)]
      first | rfl | (congr 2; simp) | simp
  · refine ⟨a3, ?_, ?_⟩
    · unfold f_X7_counted
      rw [if_neg (show ¬ nI 3 = 0 by decide), if_neg (show ¬ nI 3 = 1 by decide), if_neg (show ¬ nI 3 = 2 by decide), if_pos (show nI 3 = 3 by decide), k3]
    · rw [c4_none (by decide) (by decide) (by decide) (by decide), c6_none (by decide)]
      first | rfl | (congr 2; simp) | simp
  · refine ⟨a4, ?_, ?_⟩
    · unfold f_X7_counted
      rw [if_neg (show ¬ nI 4 = 0 by decide), if_neg (show ¬ nI 4 = 1 by decide), if_neg (show ¬ nI 4 = 2 by decide), if_neg (show ¬ nI 4 = 3 by decide), if_pos (show nI 4 = 4 by decide), k4]
      rfl
    · rw [c4_none (by decide) (by decide) (by decide) (by decide), c6_none (by decide)]
      first | rfl | (congr 2; simp) | simp
  · refine ⟨cnt (c4B h 5) 4, ?_, ?_⟩
    · unfold f_X7_counted
      rw [if_neg (show ¬ nI 5 = 0 by decide), if_neg (show ¬ nI 5 = 1 by decide), if_neg (show ¬ nI 5 = 2 by decide), if_neg (show ¬ nI 5 = 3 by decide), if_neg (show ¬ nI 5 = 4 by decide), if_pos (show nI 5 = 5 by decide), K]
      rfl
    · rw [c6_none (by decide)]
      first | rfl | (congr 2; simp) | simp
  · refine ⟨cnt (c6B h 6) 6, ?_, ?_⟩
    · unfold f_X7_counted
      rw [if_neg (show ¬ nI 6 = 0 by decide), if_neg (show ¬ nI 6 = 1 by decide), if_neg (show ¬ nI 6 = 2 by decide), if_neg (show ¬ nI 6 = 3 by decide), if_neg (show ¬ nI 6 = 4 by decide), if_neg (show ¬ nI 6 = 5 by decide), if_pos (show nI 6 = 6 by decide), Z]
      rfl
    · rw [c4_none (by decide) (by decide) (by decide) (by decide)]
      first | rfl | (congr 2; simp) | simp
  · refine ⟨cnt (c4B h 7) 4, ?_, ?_⟩
    · unfold f_X7_counted
      rw [if_neg (show ¬ nI 7 = 0 by decide), if_neg (show ¬ nI 7 = 1 by decide), if_neg (show ¬ nI 7 = 2 by decide), if_neg (show ¬ nI 7 = 3 by decide), if_neg (show ¬ nI 7 = 4 by decide), if_neg (show ¬ nI 7 = 5 by decide), if_neg (show ¬ nI 7 = 6 by decide), T]
      rfl
    · rw [c6_none (by decide)]
      first | rfl | (congr 2; simp) | simp
theorem st_count : ST_count INV := by
  intro h hI x1
  rcases place x1 8 (by decide) with ⟨n, hn, rfl⟩ | hb
  · obtain ⟨a, q1, q2⟩ := c_count hI hn
    refine ⟨nI a, lk0 h, ?_, ?_, inv_lk hI⟩
    · unfold f_X7_count
      rw [f_below, Option.bind_some, if_pos (show 0 ≤ nI n ∧ nI n < 8 from ⟨nI_pos' (by omega), nI_lt (b := 8) hn (by decide)⟩), if_neg n1_0, q1]
      rfl
    · unfold f_X8_count
      rw [f_in, Option.bind_some, if_pos (show 0 ≤ nI n ∧ nI n ≤ 7 from ⟨nI_pos' (by omega), nI_le (b := 7) (by omega) (by decide)⟩), if_neg n1_0, q2]
      rfl
  · refine ⟨-1, h, ?_, ?_, hI⟩
    · unfold f_X7_count
      rw [f_below, Option.bind_some, if_neg (show ¬ (0 ≤ x1 ∧ x1 < 8) from hb), if_pos rfl]
    · unfold f_X8_count
      rw [f_in, Option.bind_some, if_neg (show ¬ (0 ≤ x1 ∧ x1 ≤ 7) from fun q => hb ⟨q.1, by have a := i32_le.mp q.2; rw [i32_lt]; have e5 : (7 : Int32).toInt = 7 := rfl; have e6 : (nI 8).toInt = 8 := rfl; omega⟩), if_pos rfl]
end INV
