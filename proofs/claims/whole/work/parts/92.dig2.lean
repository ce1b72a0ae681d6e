/-! ===== digest: the house, snows, plans ===== -/
section INV
variable {h h' g s : TT} {P : Nat → Int32} {L : Nat} {w c : Nat → Int32} {x : Int64}
theorem ee_lk : lk0 (EE h x) = EE h x := by
  refine Prod.ext (funext fun a => funext fun j => ?_) rfl
  show (wr (EE h x) 147 22 (nI 0)).1 a j = _
  rw [wr_1]
  by_cases e : a = 147 ∧ j = 22
  · rw [if_pos e, e.1, e.2]
    show nI 0 = (lk0 h).1 147 22
    unfold lk0
    rw [wr_1, if_pos ⟨rfl, rfl⟩]
  · rw [if_neg e]
theorem ee_ms (H : HOk h 41 0 P L w c) : EE h x = MSt (EE h x) 0 P L w c := by
  have q := H.ms (h' := EE h x) (ee_r (by omega))
  rw [ee_lk] at q
  exact q
theorem ee_ok : MOK (EE h x) 0 := by
  have q := lk0_ok (h := EE h x)
  rw [ee_lk] at q
  exact q
theorem d_h1 (H : HOk h 41 0 P L w c) {i : Nat} (hi : i < L) : ∀ (d f f' j : Nat) (x : Int64), d < f → d < f' → j + d = 5 → ∃ x', (∀ k, f_X0_mixInto_28 h 41 k f x (nI i) (nI j) = k x' (nI (i + 1))) ∧ ∀ k, f_X8_mixHouse_28 k f' (nI i) (nI j) (EE h x) = k (nI (i + 1)) (EE h x') := by
  have hL := H.2.2.2.1.1
  have F : ∀ v, f_X0_fact h 41 (nI i) v = some (ftV P w c i v) := fun v => by
    have q := c_fact (h := h) (o := 41) (B := RowsAt h 41) H.2.1 H.2.2.1 H.1 hL hi v
    rw [setB_id] at q
    exact q
  have M : ∀ v x, f_X8_blockTells (EE h x) (nI i) v = some (ftV P w c i v) := fun v x => by
    have q := m_tells (h := EE h x) (b := 0) (P := P) (L := L) (w := w) (c := c) ee_ok H.1 (show i < aF P by omega) v
    rw [← ee_ms H] at q
    exact q
  intro d
  induction d with
  | zero =>
    intro f f' j x hf hf' hj
    obtain ⟨f, rfl⟩ : ∃ g, f = g + 1 := ⟨f - 1, by omega⟩
    obtain ⟨f', rfl⟩ : ∃ g, f' = g + 1 := ⟨f' - 1, by omega⟩
    obtain rfl : j = 5 := by omega
    refine ⟨x, fun k => ?_, fun k => ?_⟩
    · rw [f_X0_mixInto_28, if_pos (show (5 : Int32) ≤ nI 5 by decide), nI_1]
    · rw [f_X8_mixHouse_28, if_pos (show (5 : Int32) ≤ nI 5 by decide), nI_1]
  | succ d ih =>
    intro f f' j x hf hf' hj
    obtain ⟨f, rfl⟩ : ∃ g, f = g + 1 := ⟨f - 1, by omega⟩
    obtain ⟨f', rfl⟩ : ∃ g, f' = g + 1 := ⟨f' - 1, by omega⟩
    obtain ⟨x', q1, q2⟩ := ih f f' (j + 1) (31 * x + (ftV P w c i (nI j)).toInt64) (by omega) (by omega) (by omega)
    refine ⟨x', fun k => ?_, fun k => ?_⟩
    · rw [f_X0_mixInto_28, if_neg (show ¬ (5 : Int32) ≤ nI j from nI_ge (b := 5) (by omega) (by omega)), F, Option.bind_some, nm_eq, nI_1]
      exact q1 k
    · rw [f_X8_mixHouse_28, if_neg (show ¬ (5 : Int32) ≤ nI j from nI_ge (b := 5) (by omega) (by omega)), M, Option.bind_some, ee_mix, Option.bind_some, nI_1]
      exact q2 k
theorem d_h2 (H : HOk h 41 0 P L w c) : ∀ (d f f' i : Nat) (x : Int64), d < f → d < f' → i + d = L → ∃ x', f_X0_mixInto_17 h 41 f x (nI i) = some x' ∧ f_X8_mixHouse_16 f' (nI i) (EE h x) = some (EE h x') := by
  have hL := H.2.2.2.1.1
  have h60 := H.1.a60
  have l4 : h.1 41 4 = nI L := H.2.2.1.1
  have V : ∀ x, f_X8_v (EE h x) 31 = some (nI L) := fun x => by
    have q := v_L (h := EE h x) (b := 0) (P := P) (L := L) (w := w) (c := c) ee_ok
    rw [← ee_ms H] at q
    exact q
  intro d
  induction d with
  | zero =>
    intro f f' i x hf hf' hi
    obtain ⟨f, rfl⟩ : ∃ g, f = g + 1 := ⟨f - 1, by omega⟩
    obtain ⟨f', rfl⟩ : ∃ g, f' = g + 1 := ⟨f' - 1, by omega⟩
    obtain rfl : i = L := by omega
    refine ⟨x, ?_, ?_⟩
    · rw [f_X0_mixInto_17, l4, if_pos (nI_le (Nat.le_refl _) (by omega))]
    · rw [f_X8_mixHouse_16, V, Option.bind_some, if_pos (nI_le (Nat.le_refl _) (by omega))]
  | succ d ih =>
    intro f f' i x hf hf' hi
    obtain ⟨f, rfl⟩ : ∃ g, f = g + 1 := ⟨f - 1, by omega⟩
    obtain ⟨f', rfl⟩ : ∃ g, f' = g + 1 := ⟨f' - 1, by omega⟩
    obtain ⟨x', q1, q2⟩ := d_h1 H (i := i) (by omega) 5 KF KF 0 x (by decide) (by decide) (by omega)
    obtain ⟨y, q3, q4⟩ := ih f f' (i + 1) x' (by omega) (by omega) (by omega)
    refine ⟨y, ?_, ?_⟩
    · rw [f_X0_mixInto_17, l4, if_neg (nI_ge (by omega) (by omega)), show (0 : Int32) = nI 0 from rfl, q1]
      exact q3
    · rw [f_X8_mixHouse_16, V, Option.bind_some, if_neg (nI_ge (by omega) (by omega)), show (0 : Int32) = nI 0 from rfl, q2]
      exact q4
theorem i64_m1 (x : Int64) : 31 * x - 1 = 31 * x + -1 := Int64.sub_eq_add_neg _ _
theorem d_house (X : XX h) (x : Int64) : ∃ x', f_X0_mixInto h 41 x = some x' ∧ f_X8_mixHouse (EE h x) = some (EE h x') := by
  rcases home X with ⟨z0, z1, -, -⟩ | ⟨z0, z1, P, L, w, c, H⟩
  · refine ⟨31 * x + -1, ?_, ?_⟩
    · unfold f_X0_mixInto
      rw [if_pos z0, i64_m1]
    · unfold f_X8_mixHouse
      rw [m_look0, ee_lk, Option.bind_some, if_pos ib04', tn0, ee_r (by omega), if_pos z1, ee_mix]
      rfl
  · have hL := H.2.2.2.1.1
    have h60 := H.1.a60
    obtain ⟨y, q1, q2⟩ := d_h2 H L KF KF 0 x (by have := KF_ge; omega) (by have := KF_ge; omega) (by omega)
    refine ⟨y, ?_, ?_⟩
    · unfold f_X0_mixInto
      rw [if_neg (by rw [z0]; decide), show (0 : Int32) = nI 0 from rfl, q1]
    · unfold f_X8_mixHouse
      rw [m_look0, ee_lk, Option.bind_some, if_pos ib04', tn0, ee_r (by omega), if_neg (by rw [z1]; decide), show (0 : Int32) = nI 0 from rfl, q2]
/-! a snow -/
theorem d_sn4 {k : Nat} (hk : k < 4) (e1 : h.1 154 k = 1) (e : ∀ j, j < 4 → h.1 (17 + 2 * k) j = h.1 155 (4 * k + j)) : ∀ (d f f' j : Nat) (x : Int64), d < f → d < f' → j + d = 4 → ∃ x', f_X5_mixInto_17 h (16 + 2 * k) f x (nI j) = some x' ∧ ∀ kk, f_X8_mixBooks_25 kk f' (nI k) (nI j) (EE h x) = kk (nI (k + 1)) (EE h x') := by
  intro d
  induction d with
  | zero =>
    intro f f' j x hf hf' hj
    obtain ⟨f, rfl⟩ : ∃ g, f = g + 1 := ⟨f - 1, by omega⟩
    obtain ⟨f', rfl⟩ : ∃ g, f' = g + 1 := ⟨f' - 1, by omega⟩
    obtain rfl : j = 4 := by omega
    refine ⟨x, ?_, fun kk => ?_⟩
    · rw [f_X5_mixInto_17, if_pos (show (4 : Int32) ≤ nI 4 by decide)]
    · rw [f_X8_mixBooks_25, if_pos (show (4 : Int32) ≤ nI 4 by decide)]
      unfold f_X8_mixBooks_60
      rw [nI_1]
  | succ d ih =>
    intro f f' j x hf hf' hj
    obtain ⟨f, rfl⟩ : ∃ g, f = g + 1 := ⟨f - 1, by omega⟩
    obtain ⟨f', rfl⟩ : ∃ g, f' = g + 1 := ⟨f' - 1, by omega⟩
    obtain ⟨x', q1, q2⟩ := ih f f' (j + 1) (31 * x + (h.1 155 (4 * k + j)).toInt64) (by omega) (by omega) (by omega)
    refine ⟨x', ?_, fun kk => ?_⟩
    · rw [f_X5_mixInto_17, if_neg (show ¬ (4 : Int32) ≤ nI j from nI_ge (b := 4) (by omega) (by omega)), if_pos (inb_nI (by omega) (by decide)), nm_eq, nI_clamp (by omega), show 16 + 2 * k + 1 = 17 + 2 * k by omega, e j (by omega), nI_1]
      exact q1
    · rw [f_X8_mixBooks_25, if_neg (show ¬ (4 : Int32) ≤ nI j from nI_ge (b := 4) (by omega) (by omega)), if_pos (inb_nI hk (by decide)), nI_clamp (show k < 2 ^ 31 by omega), ee_r (show 154 ≠ 147 by omega), if_neg (by rw [e1]; decide), show (4 : Int32) * nI k + nI j = nI (4 * k + j) by rw [show (4 : Int32) = nI 4 from rfl, pk_mul, nI_add], if_pos (inb_nI (by omega) (by decide)), nI_clamp (by omega), ee_r (by omega), ee_mix, Option.bind_some, nI_1]
      exact q2 kk
theorem d_sn {k : Nat} (hk : k < 4) (X : SNX h k) (x : Int64) : ∃ x', f_X5_mixInto h (16 + 2 * k) x = some x' ∧ ∀ kk, (if (EE h x).1 154 k = 0 then (f_X8_mix (EE h x) (-1 : Int64)).bind fun h21 => f_X8_mixBooks_23 kk (nI k) h21 else f_X8_mixBooks_23 kk (nI k) (EE h x)) = kk (nI (k + 1)) (EE h x') := by
  obtain ⟨a, b⟩ := X
  rcases b with b | ⟨b, b2, -⟩
  · refine ⟨31 * x + -1, ?_, fun kk => ?_⟩
    · unfold f_X5_mixInto
      rw [a, if_pos b, i64_m1]
    · rw [ee_r (by omega), if_pos b, ee_mix, Option.bind_some]
      unfold f_X8_mixBooks_23
      rw [show KF = 999 + 1 from rfl, f_X8_mixBooks_25, if_neg (show ¬ (4 : Int32) ≤ 0 by decide), if_pos (inb_nI hk (by decide)), nI_clamp (by omega), ee_r (by omega), if_pos b]
      unfold f_X8_mixBooks_60
      rw [nI_1]
  · obtain ⟨y, q1, q2⟩ := d_sn4 hk b (fun j hj => (b2 j hj).1) 4 KF KF 0 x (by decide) (by decide) (by omega)
    refine ⟨y, ?_, fun kk => ?_⟩
    · unfold f_X5_mixInto
      rw [a, if_neg (by rw [b]; decide), show (0 : Int32) = nI 0 from rfl, q1]
    · rw [ee_r (by omega), if_neg (by rw [b]; decide)]
      unfold f_X8_mixBooks_23
      rw [show (0 : Int32) = nI 0 from rfl]
      exact q2 kk
end INV
