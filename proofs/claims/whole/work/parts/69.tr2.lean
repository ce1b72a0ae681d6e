def srD (T : Nat → Bool) : Nat → Int32
  | 0 => -9
  | n + 1 => if T n = true then nI n else srD T n
def srA (T : Nat → Bool) : Nat → Nat → Int32
  | 0, _ => -9
  | n + 1, a => if T a = true then nI a else srA T n (a + 1)
/-- does the house of P stand, all being laid anew -/
def stT (P : Nat → Int32) : Bool := decide (FN P (aF P) = 0)
def spB (C : Nat → Nat) : Nat → Nat × Nat
  | 0 => (0, 61)
  | t + 1 => if C t < (spB C t).2 then (t, C t) else spB C t
/-- the reference's state in a trial: as it was, or with a house on the place that is tried on -/
def StG (g s : TT) : Prop := s = g ∨ ∃ P L w c, s = MSt (lk4 g) 608 P L w c
section INV
variable {h h' g s : TT} {o k b q : Nat} {B : Nat → Nat → Int32} {P P' : Nat → Int32} {L L' : Nat} {w c w' c' : Nat → Int32}
theorem upd_upd {f : Nat → Int32} {k : Nat} {a b : Int32} : upd (upd f k a) k b = upd f k b := by
  funext j
  rw [upd_cases, upd_cases, upd_cases]
  by_cases e : j = k
  · rw [if_pos e, if_pos e]
  · rw [if_neg e, if_neg e, if_neg e]
theorem stT_t (e : FN P (aF P) = 0) : stT P = true := decide_eq_true e
theorem stT_f (e : ¬ FN P (aF P) = 0) : stT P = false := decide_eq_false e
theorem FN_lt (hW : WF P) : FN P (aF P) < 2 ^ 31 := by have := FN_le P (aF P); have := hW.a60; omega
theorem raise0' (hW : WF P) (R : RS B P) : ∃ B' v, f_X0_raise (setB h 110 B) 110 0 = some (v, setB h 110 B') ∧ RS B' P ∧ (v = 0 ↔ stT P = true) := by
  obtain ⟨B', v, e1, e2, e3⟩ := raise0 (h := h) hW R
  exact ⟨B', v, e1, e2, e3.trans ⟨stT_t, fun q => of_decide_eq_true q⟩⟩
theorem m_bu (ok : MOK h b) (hW : WF P) : ∃ v, f_X8_builds (MSt h b P L w c) = some (v, MSt h b P (aF P) (buW P (aF P)) c0) ∧ (v = 0 ↔ stT P = true) := by
  refine ⟨_, m_builds ok hW, ?_⟩
  have : nI (cnt (fB (buW P (aF P))) (aF P)) = 0 ↔ FN P (aF P) = 0 := nI_z (FN_lt hW)
  rw [this]
  exact ⟨stT_t, fun q => of_decide_eq_true q⟩
theorem W_lean (hW : WF P) {y l : Nat} (hy : y < mF P) (hl : l ≤ 9) : WF (upd P (9 + 3 * y) (nI l)) := hW.up (Or.inr (Or.inr ⟨y, hy, rfl⟩)) (fun z => by omega) (fun z => by omega) (fun _ => hl) (by omega)
theorem W_min (hW : WF P) {l : Nat} (hl : l ≤ 9) : WF (upd P 4 (nI l)) := hW.up (Or.inl rfl) (fun _ => hl) (fun z => by omega) (fun ⟨y, _, z⟩ => by omega) (by omega)
theorem W_cold (hW : WF P) {l : Nat} (hl : l ≤ 40) : WF (upd P 2 (nI l)) := hW.up (Or.inr (Or.inl rfl)) (fun z => by omega) (fun _ => hl) (fun ⟨y, _, z⟩ => by omega) (by omega)
theorem c_lean (hW : WF P) {y : Nat} (hy : y < mF P) : ∀ (n f : Nat) (B : Nat → Nat → Int32), (∃ v, RS B (upd P (9 + 3 * y) v)) → n ≤ 10 → n < f → ∃ B', f_X7_lean_58 f (nI y) (nI n - 1) (setB h 110 B) = some (srD (fun l => stT (upd P (9 + 3 * y) (nI l))) n, setB h 110 B') := by
  have hm := mF8 hW
  intro n
  induction n with
  | zero =>
    intro f B R hn hf
    obtain ⟨f, rfl⟩ : ∃ g, f = g + 1 := ⟨f - 1, by omega⟩
    rw [f_X7_lean_58, if_pos (by decide)]
    exact ⟨B, rfl⟩
  | succ n ih =>
    intro f B R hn hf
    obtain ⟨f, rfl⟩ : ∃ g, f = g + 1 := ⟨f - 1, by omega⟩
    obtain ⟨v, R⟩ := R
    have R2 := R.lean (nI n) y
    rw [upd_upd] at R2
    obtain ⟨B', u, e1, R3, e3⟩ := raise0' (h := h) (W_lean hW hy (l := n) (by omega)) R2
    rw [nI_pred, f_X7_lean_58, if_neg (nI_pos (by omega)), if_pos (inb_nI (by omega) (by decide)), nI_clamp (by omega), show 110 + 3 + 3 = 110 + 6 from rfl, sb_w (by omega), nm_eq, e1, Option.bind_some, srD]
    by_cases e : u = 0
    · rw [if_pos e, if_pos (e3.mp e)]
      exact ⟨B', rfl⟩
    · rw [if_neg e, if_neg (fun z => e (e3.mpr z)), show nI n + -1 = nI n - 1 from (Int32.sub_eq_add_neg (a := nI n) (b := 1)).symm]
      exact ih f B' ⟨_, R3⟩ (by omega) (by omega)
theorem m_lean49 (ok : MOK h b) (hW : WF P) {y : Nat} (hy : y < mF P) : ∀ (d f l : Nat) (v : Int32) (L : Nat) (w c : Nat → Int32), l + d = 10 → d < f → ∃ Q L' w' c', f_X8_lean_49 f (nI y) (srD (fun l => stT (upd P (9 + 3 * y) (nI l))) l) (nI l) (MSt h b (upd P (9 + 3 * y) v) L w c) = some (srD (fun l => stT (upd P (9 + 3 * y) (nI l))) 10, MSt h b Q L' w' c') := by
  have hm := mF8 hW
  intro d
  induction d with
  | zero =>
    intro f l v L w c hl hf
    obtain ⟨f, rfl⟩ : ∃ g, f = g + 1 := ⟨f - 1, by omega⟩
    obtain rfl : l = 10 := by omega
    refine ⟨upd P (9 + 3 * y) v, L, w, c, ?_⟩
    rw [f_X8_lean_49, if_pos (by decide)]
  | succ d ih =>
    intro f l v L w c hl hf
    obtain ⟨f, rfl⟩ : ∃ g, f = g + 1 := ⟨f - 1, by omega⟩
    obtain ⟨u, e1, e2⟩ := m_bu (h := h) (b := b) (L := L) (w := w) (c := c) ok (W_lean hW hy (l := l) (by omega))
    obtain ⟨Q, L', w', c', q⟩ := ih f (l + 1) (nI l) _ _ _ (by omega) (by omega)
    refine ⟨Q, L', w', c', ?_⟩
    rw [f_X8_lean_49, if_neg (show ¬ (9 : Int32) < nI l from nI_nlt (a := 9) (by omega) (by omega)), k9, put_P ok (by omega), Option.bind_some, upd_upd, e1, Option.bind_some]
    unfold f_X8_lean_80
    rw [nI_1]
    rw [srD] at q
    by_cases e : u = 0
    · rw [if_pos e]
      rw [if_pos (e2.mp e)] at q
      exact q
    · rw [if_neg e]
      rw [if_neg (fun z => e (e2.mpr z))] at q
      exact q
theorem st_lean : ST_lean INV := by
  intro h hI x1
  have x := hI.2.2.2.2.2
  by_cases e : 0 ≤ x1 ∧ x1 < 8
  · have e' : 0 ≤ x1 ∧ x1 ≤ 7 := (le_pred (n := 8) (Or.inl (by decide))).mpr e
    obtain ⟨y, hy, rfl⟩ := nI_of2 (M := 7) (n := 7) rfl (le_nlt e.1) e'.2
    rcases home x with ⟨a1, a2, -⟩ | ⟨a1, a2, P, L, w, c, H⟩
    · refine ⟨-4, h, h, ?_, ?_, hI⟩
      · unfold f_X7_lean
        rw [f_below, Option.bind_some, if_pos e, if_neg n1_0, if_pos a1]
      · unfold f_X8_lean
        rw [f_in, Option.bind_some, if_pos e', if_neg n1_0, if_pos ib04', tn0, if_pos a2]
    · have hm := mF8 H.1
      have d1 : h.1 (41 + 3) 1 = nI (mF P) := (H.2.1.2.2.2.2.2.1).trans (P6 H.1)
      by_cases ey : y < mF P
      · obtain ⟨B1, g1, R1⟩ := c_own0 H
        obtain ⟨B', k1⟩ := c_lean (h := h) H.1 ey 10 KF B1 ⟨P (9 + 3 * y), by rw [upd_id rfl]; exact R1⟩ (by omega) (by decide)
        obtain ⟨Q, L', w', c', k2⟩ := m_lean49 (h := lk4 (setB h 110 B')) (b := 608) lk4_ok H.1 ey 10 KF 0 (P (9 + 3 * y)) L w c (by omega) (by decide)
        rw [upd_id (f := P) (k := 9 + 3 * y) rfl] at k2
        refine ⟨srD (fun l => stT (upd P (9 + 3 * y) (nI l))) 10, setB h 110 B', _, ?_, ?_, inv_tr hI (B := B') (P := Q) (L := L') (w := w') (c := c')⟩
        · unfold f_X7_lean
          rw [f_below, Option.bind_some, if_pos e, if_neg n1_0, if_neg (by rw [a1]; decide), d1, if_pos (nI_lt ey (by omega)), g1, Option.bind_some]
          exact k1
        · unfold f_X8_lean
          rw [f_in, Option.bind_some, if_pos e', if_neg n1_0, if_pos ib04', tn0, sb_o (by omega), if_neg (by rw [a2]; decide), m_ownA (H.e0 (sb_o (by omega))), Option.bind_some, show f_X8_v (MSt (lk4 (setB h 110 B')) 608 P L w c) 6 = some (P 6) from v_P (k := 6) lk4_ok (by omega), Option.bind_some, P6 H.1, if_pos (nI_lt ey (by omega))]
          exact k2
      · refine ⟨-3, hFind h 2, hMeet (MSt (lk4 (hFind h 2)) 608 P L w c) 2, ?_, ?_, ?_⟩
        · unfold f_X7_lean
          rw [f_below, Option.bind_some, if_pos e, if_neg n1_0, if_neg (by rw [a1]; decide), d1, if_neg (nI_nlt (by omega) (by omega))]
          exact fm_find h (by decide) rfl
        · unfold f_X8_lean
          rw [f_in, Option.bind_some, if_pos e', if_neg n1_0, if_pos ib04', tn0, hFind_r (by omega) (by omega), if_neg (by rw [a2]; decide), m_ownA (H.e0 (hFind_r (by omega) (by omega))), Option.bind_some, show f_X8_v (MSt (lk4 (hFind h 2)) 608 P L w c) 6 = some (P 6) from v_P (k := 6) lk4_ok (by omega), Option.bind_some, P6 H.1, if_neg (nI_nlt (by omega) (by omega))]
          exact fm_meet _ (by decide) rfl
        · have hf := inv_find XX_fr.frx hI (f := 2) (by decide)
          refine inv_gen XX_fr hf ⟨fun i j n1 n2 n3 => ?_, fun i j _ => rfl⟩ ?_
          · have n4 : ¬ (i = 147 ∧ j = 22) := fun z => n1 (by unfold Scr; omega)
            have n5 : ¬ (i = 161 ∧ 608 ≤ j) := fun z => n1 (by unfold Scr; omega)
            have m : ∀ i j, ¬ (i = 147 ∧ j = 22) → ¬ (i = 161 ∧ 608 ≤ j) → (MSt (lk4 (hFind h 2)) 608 P L w c).1 i j = (hFind h 2).1 i j := fun i j z1 z2 => by
              unfold MSt
              by_cases z3 : i = 161
              · subst z3
                show (wrow (lk4 (hFind h 2)) 161 _).1 161 j = _
                rw [wrow_1, if_pos rfl, if_neg (by omega), lk4_r (by omega)]
              · rw [setG_o z3]
                unfold lk4
                rw [wr_1, if_neg z1]
            unfold hMeet
            rw [wr_1, wr_1, wr_1, wr_1, m 148 2 (by omega) (by omega), m i j n4 n5]
          · unfold hMeet MSt
            rw [wr_row (by omega), wr_row (by omega), wr_row (by omega), wr_1, if_neg (by omega), setG_o (by omega), setG_o (by omega), lk4_r (by omega)]
            unfold lk4
            rw [wr_1, if_neg (by omega), show (hFind h 2).1 147 = h.1 147 from hFind_r (by omega) (by omega)]
            have := hI.1
            unfold R_told at this
            unfold hFind
            rw [wr_row (by omega), wr_1, if_neg (by omega)]
            exact this
  · have e' : ¬ (0 ≤ x1 ∧ x1 ≤ 7) := fun z => e ((le_pred (n := 8) (Or.inl (by decide))).mp z)
    refine ⟨-1, h, h, ?_, ?_, hI⟩
    · unfold f_X7_lean
      rw [f_below, Option.bind_some, if_neg e]; rfl
    · unfold f_X8_lean
      rw [f_in, Option.bind_some, if_neg e']; rfl
/-! slow -/
theorem c_lm (hW : WF P) : ∀ (n f a : Nat) (B : Nat → Nat → Int32), (∃ v, RS B (upd P 4 v)) → a + n = 10 → n < f → ∃ B', f_X7_leastMinutes_13 f (nI a) (setB h 110 B) = some (srA (fun l => stT (upd P 4 (nI l))) n a, setB h 110 B') := by
  intro n
  induction n with
  | zero =>
    intro f a B R hn hf
    obtain ⟨f, rfl⟩ : ∃ g, f = g + 1 := ⟨f - 1, by omega⟩
    rw [f_X7_leastMinutes_13, if_pos (show (9 : Int32) < nI a from nI_lt (a := 9) (by omega) (by omega))]
    exact ⟨B, rfl⟩
  | succ n ih =>
    intro f a B R hn hf
    obtain ⟨f, rfl⟩ : ∃ g, f = g + 1 := ⟨f - 1, by omega⟩
    obtain ⟨v, R⟩ := R
    have R2 := R.min (nI a)
    rw [upd_upd] at R2
    obtain ⟨B', u, e1, R3, e3⟩ := raise0' (h := h) (W_min hW (l := a) (by omega)) R2
    rw [f_X7_leastMinutes_13, if_neg (show ¬ (9 : Int32) < nI a from nI_nlt (a := 9) (by omega) (by omega)), sb_w (o := 110) (j := 3) (by omega), nm_eq, e1, Option.bind_some, srA]
    by_cases e : u = 0
    · rw [if_pos e, if_pos (e3.mp e)]
      exact ⟨B', rfl⟩
    · rw [if_neg e, if_neg (fun z => e (e3.mpr z)), nI_1]
      exact ih f (a + 1) B' ⟨_, R3⟩ (by omega) (by omega)
theorem c_lc (hW : WF P) : ∀ (n f a : Nat) (B : Nat → Nat → Int32), (∃ v, RS B (upd P 2 v)) → a + n = 41 → n < f → ∃ B', f_X7_leastCold_13 f (nI a) (setB h 110 B) = some (srA (fun l => stT (upd P 2 (nI l))) n a, setB h 110 B') := by
  intro n
  induction n with
  | zero =>
    intro f a B R hn hf
    obtain ⟨f, rfl⟩ : ∃ g, f = g + 1 := ⟨f - 1, by omega⟩
    rw [f_X7_leastCold_13, if_pos (show (40 : Int32) < nI a from nI_lt (a := 40) (by omega) (by omega))]
    exact ⟨B, rfl⟩
  | succ n ih =>
    intro f a B R hn hf
    obtain ⟨f, rfl⟩ : ∃ g, f = g + 1 := ⟨f - 1, by omega⟩
    obtain ⟨v, R⟩ := R
    have R2 := R.cold (nI a)
    rw [upd_upd] at R2
    obtain ⟨B', u, e1, R3, e3⟩ := raise0' (h := h) (W_cold hW (l := a) (by omega)) R2
    rw [f_X7_leastCold_13, if_neg (show ¬ (40 : Int32) < nI a from nI_nlt (a := 40) (by omega) (by omega)), if_pos (show inb 2 4 = true by decide), tn2, show 110 + 1 + 1 = 110 + 2 from rfl, sb_w (by omega), nm_eq, e1, Option.bind_some, srA]
    by_cases e : u = 0
    · rw [if_pos e, if_pos (e3.mp e)]
      exact ⟨B', rfl⟩
    · rw [if_neg e, if_neg (fun z => e (e3.mpr z)), nI_1]
      exact ih f (a + 1) B' ⟨_, R3⟩ (by omega) (by omega)
theorem StG.own (hs : StG g s) (e : ∀ j, j < 152 → g.1 161 j = mkG P L w c j) : f_X8_layOwn s = some (MSt (lk4 g) 608 P L w c) := by
  rcases hs with rfl | ⟨P', L', w', c', rfl⟩
  · exact m_ownA e
  · exact m_ownB e
theorem m_s67 (e : ∀ j, j < 152 → g.1 161 j = mkG P L w c j) (hW : WF P) {x1 : Int32} : ∀ (a f : Nat) (s : TT), StG g s → a ≤ 41 → a < f → ∃ s', f_X8_slow_67 f x1 (srA (fun l => stT (upd P 2 (nI l))) (41 - a) a) (nI a - 1) s = some (x1, wr s' 147 2 (srA (fun l => stT (upd P 2 (nI l))) 41 0)) ∧ StG g s' := by
  intro a
  induction a with
  | zero =>
    intro f s hs ha hf
    obtain ⟨f, rfl⟩ : ∃ g, f = g + 1 := ⟨f - 1, by omega⟩
    refine ⟨s, ?_, hs⟩
    rw [f_X8_slow_67, if_pos (by decide)]
    rfl
  | succ a ih =>
    intro f s hs ha hf
    obtain ⟨f, rfl⟩ : ∃ g, f = g + 1 := ⟨f - 1, by omega⟩
    obtain ⟨u, e1, e2⟩ := m_bu (h := lk4 g) (b := 608) (L := L) (w := w) (c := c) lk4_ok (W_cold hW (l := a) (by omega))
    obtain ⟨s', q, hs'⟩ := ih f (MSt (lk4 g) 608 (upd P 2 (nI a)) (aF (upd P 2 (nI a))) (buW (upd P 2 (nI a)) (aF (upd P 2 (nI a)))) c0) (Or.inr ⟨_, _, _, _, rfl⟩) (by omega) (by omega)
    refine ⟨s', ?_, hs'⟩
    rw [show 41 - a = (41 - (a + 1)) + 1 by omega, srA] at q
    rw [nI_pred, f_X8_slow_67, if_neg (nI_pos (by omega)), hs.own e, Option.bind_some, show (2 : Int32) = nI 2 from rfl, put_P lk4_ok (by omega), Option.bind_some, e1, Option.bind_some]
    unfold f_X8_slow_93
    rw [show nI a + -1 = nI a - 1 from (Int32.sub_eq_add_neg (a := nI a) (b := 1)).symm]
    by_cases e9 : u = 0
    · rw [if_pos e9]
      rw [if_pos (e2.mp e9)] at q
      exact q
    · rw [if_neg e9]
      rw [if_neg (fun z => e9 (e2.mpr z))] at q
      exact q
theorem m_s18 (e : ∀ j, j < 152 → g.1 161 j = mkG P L w c j) (hW : WF P) : ∀ (a f : Nat) (s : TT), StG g s → a ≤ 9 → a < f → ∃ s', f_X8_slow_18 f (srA (fun l => stT (upd P 4 (nI l))) (9 - a) (a + 1)) (nI a) s = (if srA (fun l => stT (upd P 4 (nI l))) 9 1 = (-9 : Int32) then some ((-9 : Int32), s') else f_X8_slow_67 KF (srA (fun l => stT (upd P 4 (nI l))) 9 1) (-9 : Int32) (40 : Int32) s') ∧ StG g s' := by
  intro a
  induction a with
  | zero =>
    intro f s hs ha hf
    obtain ⟨f, rfl⟩ : ∃ g, f = g + 1 := ⟨f - 1, by omega⟩
    refine ⟨s, ?_, hs⟩
    rw [f_X8_slow_18, if_pos (by decide)]
  | succ a ih =>
    intro f s hs ha hf
    obtain ⟨f, rfl⟩ : ∃ g, f = g + 1 := ⟨f - 1, by omega⟩
    obtain ⟨u, e1, e2⟩ := m_bu (h := lk4 g) (b := 608) (L := L) (w := w) (c := c) lk4_ok (W_min hW (l := a + 1) (by omega))
    obtain ⟨s', q, hs'⟩ := ih f (MSt (lk4 g) 608 (upd P 4 (nI (a + 1))) (aF (upd P 4 (nI (a + 1)))) (buW (upd P 4 (nI (a + 1))) (aF (upd P 4 (nI (a + 1))))) c0) (Or.inr ⟨_, _, _, _, rfl⟩) (by omega) (by omega)
    refine ⟨s', ?_, hs'⟩
    rw [show 9 - a = (9 - (a + 1)) + 1 by omega, srA] at q
    rw [f_X8_slow_18, if_neg (show ¬ nI (a + 1) < (1 : Int32) from nI_nlt (b := 1) (by omega) (by omega)), hs.own e, Option.bind_some, show (4 : Int32) = nI 4 from rfl, put_P lk4_ok (by omega), Option.bind_some, e1, Option.bind_some]
    unfold f_X8_slow_45
    rw [pk_m1]
    by_cases e9 : u = 0
    · rw [if_pos e9]
      rw [if_pos (e2.mp e9)] at q
      exact q
    · rw [if_neg e9]
      rw [if_neg (fun z => e9 (e2.mpr z))] at q
      exact q
theorem inv_st0 (hI : INV h) (hs : StG (setB h 110 B) s) : INV s := by
  rcases hs with rfl | ⟨P', L', w', c', rfl⟩
  · exact inv_gen XX_fr hI (sct_B (ScT.rf h)) (by rw [sb_o (by omega), sb_o (by omega)]; exact hI.1)
  · exact inv_tr hI
theorem inv_stT (hI : INV h) {v : Int32} (hs : StG (wr (setB h 110 B) 0 13 v) s) : INV (wr s 147 2 v) := by
  rcases hs with rfl | ⟨P', L', w', c', rfl⟩
  · refine inv_gen XX_fr hI (sct_a (sct_t (sct_B (ScT.rf h)))) ?_
    rw [wr_row (by omega), wr_1, if_pos ⟨rfl, rfl⟩, wr_1, if_pos ⟨rfl, rfl⟩]
  · exact inv_trT hI
theorem st_slow : ST_slow INV := by
  intro h hI
  have x := hI.2.2.2.2.2
  rcases home x with ⟨a1, a2, -⟩ | ⟨a1, a2, P, L, w, c, H⟩
  · refine ⟨-4, h, h, ?_, ?_, hI⟩
    · unfold f_X7_slow
      rw [if_pos a1]
    · unfold f_X8_slow
      rw [if_pos ib04', tn0, if_pos a2]
  · obtain ⟨B1, g1, R1⟩ := c_own0 H
    obtain ⟨B2, k1⟩ := c_lm (h := h) H.1 9 KF 1 B1 ⟨P 4, by rw [upd_id rfl]; exact R1⟩ (by omega) (by decide)
    have k1' : f_X7_leastMinutes h = some (srA (fun l => stT (upd P 4 (nI l))) 9 1, setB h 110 B2) := by
      unfold f_X7_leastMinutes
      rw [g1, Option.bind_some]
      exact k1
    by_cases e : srA (fun l => stT (upd P 4 (nI l))) 9 1 = -9
    · obtain ⟨s', q, hs'⟩ := m_s18 (g := setB h 110 B2) (H.e0 (sb_o (by omega))) H.1 9 KF (setB h 110 B2) (Or.inl rfl) (by omega) (by decide)
      refine ⟨-9, setB h 110 B2, s', ?_, ?_, inv_st0 hI hs'⟩
      · unfold f_X7_slow f_X7_slow_32
        rw [if_neg (by rw [a1]; decide), k1', Option.bind_some, nm_eq, if_pos e, e]
      · unfold f_X8_slow
        rw [if_pos ib04', tn0, sb_o (by omega), if_neg (by rw [a2]; decide)]
        rw [if_pos e] at q
        exact q
    · obtain ⟨B3, g3, R3⟩ := c_own H B2
      obtain ⟨B4, k2⟩ := c_lc (h := h) H.1 41 KF 0 B3 ⟨P 2, by rw [upd_id rfl]; exact R3⟩ (by omega) (by decide)
      have r1 : (wr (setB h 110 B4) 0 13 (srA (fun l => stT (upd P 2 (nI l))) 41 0)).1 161 = h.1 161 := by rw [wr_row (by omega), sb_o (by omega)]
      obtain ⟨s', q, hs'⟩ := m_s18 (g := wr (setB h 110 B4) 0 13 (srA (fun l => stT (upd P 2 (nI l))) 41 0)) (H.e0 r1) H.1 9 KF _ (Or.inl rfl) (by omega) (by decide)
      obtain ⟨s2, q2, hs2⟩ := m_s67 (g := wr (setB h 110 B4) 0 13 (srA (fun l => stT (upd P 2 (nI l))) 41 0)) (H.e0 r1) H.1 (x1 := srA (fun l => stT (upd P 4 (nI l))) 9 1) 41 KF s' hs' (by omega) (by decide)
      refine ⟨srA (fun l => stT (upd P 4 (nI l))) 9 1, wr (setB h 110 B4) 0 13 (srA (fun l => stT (upd P 2 (nI l))) 41 0), _, ?_, ?_, inv_stT hI hs2⟩
      · unfold f_X7_slow f_X7_slow_32 f_X7_leastCold
        rw [if_neg (by rw [a1]; decide), k1', Option.bind_some, nm_eq, if_neg e, g3, Option.bind_some, show (0 : Int32) = nI 0 from rfl, k2, Option.bind_some, nm_eq]
      · unfold f_X8_slow
        rw [if_pos ib04', tn0, wr_row (by omega), sb_o (by omega), if_neg (by rw [a2]; decide)]
        rw [if_neg e] at q
        exact q.trans q2
end INV
