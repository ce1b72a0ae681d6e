def lk4 (h : TT) : TT := wr h 147 22 (nI 608)
section INV
variable {h h' : TT} {o k b q : Nat} {B : Nat → Nat → Int32} {P P' : Nat → Int32} {L L' : Nat} {w c w' c' g : Nat → Int32}
theorem lk4_ok : MOK (lk4 h) 608 := ⟨by unfold lk4; rw [wr_1, if_pos ⟨rfl, rfl⟩], by omega⟩
theorem lk4_r {i : Nat} (hi : i ≠ 147) : (lk4 h).1 i = h.1 i := wr_row hi
theorem lk4_G (h : TT) (b : Nat) (g : Nat → Int32) : lk4 (setG h b g) = setG (lk4 h) b g := by
  refine Prod.ext (funext fun a => funext fun j => ?_) rfl
  unfold lk4
  rw [wr_1]
  by_cases e : a = 161
  · subst e
    rw [if_neg (by omega)]
    show (wrow h 161 _).1 161 j = (wrow (wr h 147 22 (nI 608)) 161 _).1 161 j
    rw [wrow_1, wrow_1, if_pos rfl, if_pos rfl, wr_row (by omega)]
  · rw [setG_o e, setG_o e, wr_1]
theorem setG_G (h : TT) (b : Nat) (g g' : Nat → Int32) : setG (setG h b g) b g' = setG h b g' := by
  refine Prod.ext (funext fun a => funext fun j => ?_) rfl
  by_cases e : a = 161
  · subst e
    show (wrow (setG h b g) 161 _).1 161 j = (wrow h 161 _).1 161 j
    rw [wrow_1, wrow_1, if_pos rfl, if_pos rfl]
    by_cases e2 : b ≤ j ∧ j < b + 152
    · rw [if_pos e2, if_pos e2]
    · rw [if_neg e2, if_neg e2]
      show (wrow h 161 _).1 161 j = _
      rw [wrow_1, if_pos rfl, if_neg e2]
  · rw [setG_o e, setG_o e, setG_o e]
theorem lk44 (h : TT) : lk4 (lk4 h) = lk4 h := by
  unfold lk4
  refine Prod.ext (funext fun x => funext fun y => ?_) rfl
  rw [wr_1, wr_1]
  by_cases e : x = 147 ∧ y = 22
  · rw [if_pos e]
    rw [if_pos e]
  · rw [if_neg e, if_neg e]
theorem m_look4 (h : TT) : f_X8_look h 4 = some (lk4 h) := rfl
theorem m_ownA (e : ∀ j, j < 152 → h.1 161 j = mkG P L w c j) : f_X8_layOwn h = some (MSt (lk4 h) 608 P L w c) := by
  unfold f_X8_layOwn
  rw [show (0 : Int32) = nI 0 from rfl, show (4 : Int32) = nI 4 from rfl, m_copy (by omega) (by omega) (by omega), Option.bind_some, show f_X8_look (setG h (152 * 4) (fun j => h.1 161 (152 * 0 + j))) (nI 4) = some (lk4 (setG h (152 * 4) (fun j => h.1 161 (152 * 0 + j)))) from rfl, Option.bind_some, lk4_G, show 152 * 4 = 608 from rfl]
  exact congrArg some (setG_cg (fun j hj => by rw [show 152 * 0 + j = j by omega]; exact e j hj))
theorem m_ownB (e : ∀ j, j < 152 → h.1 161 j = mkG P L w c j) : f_X8_layOwn (MSt (lk4 h) 608 P' L' w' c') = some (MSt (lk4 h) 608 P L w c) := by
  rw [m_ownA (P := P) (L := L) (w := w) (c := c) (fun j hj => ?_)]
  · unfold MSt
    rw [lk4_G, lk44, setG_G]
  · show (wrow (lk4 h) 161 _).1 161 j = _
    rw [wrow_1, if_pos rfl, if_neg (by omega), lk4_r (by omega)]
    exact e j hj
theorem HOk.e0 (H : HOk h o 0 P L w c) (e : h'.1 161 = h.1 161) : ∀ j, j < 152 → h'.1 161 j = mkG P L w c j := fun j hj => by
  rw [e]
  have := H.2.2.2.2.2 j hj
  rw [show 152 * 0 + j = j by omega] at this
  exact this
theorem c_own (H : HOk h 41 0 P L w c) (B : Nat → Nat → Int32) : ∃ B', f_X0_takeFrom (setB h 110 B) 110 41 = some (setB h 110 B') ∧ RS B' P := by
  have z0 : h.1 41 0 = 1 := H.2.1.1
  have z1 : h.1 (41 + 1) 0 = 1 := H.2.1.2.1
  have z3 : h.1 (41 + 3) 0 = 1 := H.2.1.2.2.1
  obtain ⟨B', g1, g2⟩ := c_takeB (h := h) (o := 110) (B := B) (o1 := 41) (by rw [z0]; decide) (by rw [z1]; decide) (by rw [z3]; decide) (fun j hj => by omega)
  have g2 : AGR B' (RowsAt h 41) := g2
  exact ⟨B', g1, H.2.1.ag H.1 g2⟩
theorem c_own0 (H : HOk h 41 0 P L w c) : ∃ B', f_X0_takeFrom h 110 41 = some (setB h 110 B') ∧ RS B' P := by
  obtain ⟨B', g1, g2⟩ := c_own H (RowsAt h 110)
  rw [setB_id] at g1
  exact ⟨B', g1, g2⟩
theorem inv_tr (hI : INV h) : INV (MSt (lk4 (setB h 110 B)) 608 P L w c) := by
  refine inv_gen XX_fr hI (sct_G (sct_w (sct_B (ScT.rf h)) (Or.inl (by unfold Scr; omega)))) ?_
  unfold MSt
  rw [setG_o (by omega), setG_o (by omega), lk4_r (by omega)]
  unfold lk4
  rw [wr_1, if_neg (by omega), sb_o (by omega), sb_o (by omega)]
  exact hI.1
theorem inv_trT (hI : INV h) {v : Int32} : INV (wr (MSt (lk4 (wr (setB h 110 B) 0 13 v)) 608 P L w c) 147 2 v) := by
  refine inv_gen XX_fr hI (sct_a (sct_G (sct_w (sct_t (sct_B (ScT.rf h))) (Or.inl (by unfold Scr; omega))))) ?_
  unfold MSt
  rw [wr_row (by omega), wr_1, if_pos ⟨rfl, rfl⟩, setG_o (by omega), lk4_r (by omega), wr_1, if_pos ⟨rfl, rfl⟩]
/-- by raise(0): all stand, or some fall -/
theorem raise0 (hW : WF P) (R : RS B P) : ∃ B' v, f_X0_raise (setB h 110 B) 110 0 = some (v, setB h 110 B') ∧ RS B' P ∧ (v = 0 ↔ FN P (aF P) = 0) := by
  have h60 := hW.a60
  obtain ⟨L', B', e1, R', D', q1, q2, q3⟩ := c_raise (h := h) (o := 110) hW (m := 0) (by decide) R
  refine ⟨B', _, e1, R', ?_⟩
  have fl := FN_le P L'
  rw [nI_z (by omega)]
  have mo := FN_mono hW q1 (Nat.le_refl _)
  rcases q2 with q2 | q2
  · rw [q2]
  · omega
theorem st_pace : ST_pace INV := by
  intro h hI x1
  have x := hI.2.2.2.2.2
  by_cases e : (1 : Int32) ≤ x1 ∧ x1 ≤ 9
  · have e1 : ¬ x1 < 1 := fun q => by have a := i32_lt.mp q; have b := i32_le.mp e.1; omega
    have e0 : ¬ x1 < 0 := fun q => by
      have a := i32_lt.mp q
      have b := i32_le.mp e.1
      have z0 : (0 : Int32).toInt = 0 := rfl
      have z1 : (1 : Int32).toInt = 1 := rfl
      omega
    obtain ⟨n, hn, rfl⟩ := nI_of2 (M := 9) (n := 9) rfl e0 e.2
    rcases home x with ⟨a1, a2, -⟩ | ⟨a1, a2, P, L, w, c, H⟩
    · refine ⟨-4, h, h, ?_, ?_, hI⟩
      · unfold f_X7_pace
        rw [if_neg e1, if_pos e.2, if_pos a1]
      · unfold f_X8_pace
        rw [f_in, Option.bind_some, if_pos e, if_neg n1_0, if_pos ib04', tn0, if_pos a2]
    · obtain ⟨B1, g1, R1⟩ := c_own0 H
      have W2 : WF (upd P 4 (nI n)) := H.1.up (Or.inl rfl) (fun _ => hn) (fun z => by omega) (fun ⟨y, _, z⟩ => by omega) (by omega)
      have h60 := W2.a60
      obtain ⟨L', B', k1, R', D', k2, k3, -⟩ := c_raise (h := h) (o := 110) W2 (m := 60) (by decide) (R1.min (nI n))
      have fl := FN_le (upd P 4 (nI n)) L'
      have eL : L' = aF (upd P 4 (nI n)) := by rcases k3 with k3 | k3 <;> omega
      rw [eL] at k1
      refine ⟨nI (FN (upd P 4 (nI n)) (aF (upd P 4 (nI n)))), setB h 110 B', _, ?_, ?_, inv_tr hI (B := B') (P := upd P 4 (nI n)) (L := aF (upd P 4 (nI n))) (w := buW (upd P 4 (nI n)) (aF (upd P 4 (nI n)))) (c := c0)⟩
      · unfold f_X7_pace
        rw [if_neg e1, if_pos e.2, if_neg (by rw [a1]; decide), g1, Option.bind_some, sb_w (o := 110) (by omega), nm_eq, show (60 : Int32) = nI 60 from rfl, k1]
        rfl
      · unfold f_X8_pace
        rw [f_in, Option.bind_some, if_pos e, if_neg n1_0, if_pos ib04', tn0, sb_o (by omega), if_neg (by rw [a2]; decide), m_ownA (H.e0 (sb_o (by omega))), Option.bind_some, show (4 : Int32) = nI 4 from rfl, put_P lk4_ok (by omega), Option.bind_some, m_builds lk4_ok W2]
        rfl
  · refine ⟨-1, h, h, ?_, ?_, hI⟩
    · unfold f_X7_pace
      by_cases e1 : x1 < 1
      · rw [if_pos e1]
      · rw [if_neg e1, if_neg (fun q => e ⟨by rw [i32_le]; rw [i32_lt] at e1; omega, q⟩)]
    · unfold f_X8_pace
      rw [f_in, Option.bind_some, if_neg e]; rfl
/-! the first that fell -/
def Mn (w : Nat → Int32) (n x : Nat) : Prop := (x = 100 ∧ ∀ j, j < n → w j = -9) ∨ (x < n ∧ ¬ w x = -9 ∧ ∀ j, j < n → ¬ w j = -9 → w x ≤ w j ∧ (w j ≤ w x → x ≤ j))
theorem fs_Mn (w : Nat → Int32) : ∀ (d i x : Nat), i + d ≤ 60 → Mn w i x → Mn w (i + d) (fsN w d i x) := by
  intro d
  induction d with
  | zero => intro i x _ h; exact h
  | succ d ih =>
    intro i x hi hM
    rw [fsN, show i + (d + 1) = i + 1 + d by omega]
    refine ih (i + 1) _ (by omega) ?_
    by_cases e : w i = -9
    · rw [if_pos e]
      rcases hM with ⟨h1, h2⟩ | ⟨h1, h2, h3⟩
      · exact Or.inl ⟨h1, fun j hj => by
          by_cases z : j = i
          · rw [z]; exact e
          · exact h2 j (by omega)⟩
      · exact Or.inr ⟨by omega, h2, fun j hj hw => by
          by_cases z : j = i
          · rw [z] at hw; exact absurd e hw
          · exact h3 j (by omega) hw⟩
    · rw [if_neg e]
      rcases hM with ⟨h1, h2⟩ | ⟨h1, h2, h3⟩
      · rw [if_pos h1]
        exact Or.inr ⟨by omega, e, fun j hj hw => by
          by_cases z : j = i
          · rw [z]; exact ⟨by rw [i32_le]; omega, fun _ => by omega⟩
          · exact absurd (h2 j (by omega)) hw⟩
      · rw [if_neg (by omega)]
        by_cases e2 : w x ≤ w i
        · rw [if_pos e2]
          exact Or.inr ⟨by omega, h2, fun j hj hw => by
            by_cases z : j = i
            · rw [z]; exact ⟨e2, fun _ => by omega⟩
            · exact h3 j (by omega) hw⟩
        · rw [if_neg e2]
          exact Or.inr ⟨by omega, e, fun j hj hw => by
            by_cases z : j = i
            · rw [z]; exact ⟨by rw [i32_le]; omega, fun _ => by omega⟩
            · have := (h3 j (by omega) hw).1
              rw [i32_le] at this e2 ⊢
              exact ⟨by omega, fun q => by rw [i32_le] at q; omega⟩⟩
theorem fs_M (w : Nat → Int32) {n : Nat} (hn : n ≤ 60) : Mn w n (fsN w n 0 100) := by
  have := fs_Mn w n 0 100 (by omega) (Or.inl ⟨rfl, fun j hj => by omega⟩)
  rw [Nat.zero_add] at this
  exact this
theorem Mn_un {w : Nat → Int32} {n x y : Nat} (hx : Mn w n x) (hy : Mn w n y) : x = y := by
  rcases hx with ⟨h1, h2⟩ | ⟨h1, h2, h3⟩
  · rcases hy with ⟨k1, k2⟩ | ⟨k1, k2, k3⟩
    · omega
    · exact absurd (h2 y k1) k2
  · rcases hy with ⟨k1, k2⟩ | ⟨k1, k2, k3⟩
    · exact absurd (k2 x h1) h2
    · have a := h3 y k1 k2
      have b := k3 x h1 h2
      have c := a.2 b.1
      have d := b.2 a.1
      omega
theorem bu_keep (hW : WF P) {L M : Nat} (h : L ≤ M) (hM : M ≤ aF P) (j : Nat) : (¬ buW P L j = -9 → buW P M j = buW P L j) ∧ (buW P L j = -9 → ¬ buW P M j = -9 → ∃ t, L ≤ t ∧ t < M ∧ buW P M j = nI t) := by
  have h60 := hW.a60
  induction M with
  | zero =>
    rw [show L = 0 by omega]
    exact ⟨fun _ => rfl, fun a b => absurd a b⟩
  | succ M ih =>
    by_cases e : L = M + 1
    · rw [e]; exact ⟨fun _ => rfl, fun a b => absurd a b⟩
    · obtain ⟨i1, i2⟩ := ih (by omega) (by omega)
      rw [bu_succ]
      rcases SE_v (P := P) (c := c0) (L := M + 1) (by omega) (buW P M) j with z | ⟨z1, z2, z3, z4⟩
      · rw [z]
        exact ⟨i1, fun a b => by obtain ⟨t, t1, t2, t3⟩ := i2 a b; exact ⟨t, t1, by omega, t3⟩⟩
      · rw [z4]
        refine ⟨fun a => ?_, fun a b => ⟨M, by omega, by omega, by rw [Nat.add_sub_cancel]⟩⟩
        have := i1 a
        rw [z1] at this
        exact absurd this.symm a
theorem FN0 {L : Nat} (h : FN P L = 0) {j : Nat} (hj : j < aF P) : buW P L j = -9 := by
  have := cnt_zero.mp h j hj
  unfold fB at this
  by_cases e : buW P L j = -9
  · exact e
  · rw [decide_eq_false e] at this; cases this
/-- the first moment at which some fall: who falls then first falls first of all -/
theorem first_same (hW : WF P) {L' : Nat} (h1 : L' ≤ aF P) (h2 : 0 < FN P L') (h3 : ∀ l, l < L' → FN P l ≤ 0) : ∃ x, x < L' ∧ fsN (buW P L') L' 0 100 = x ∧ fsN (buW P (aF P)) (aF P) 0 100 = x ∧ buW P (aF P) x = nI (L' - 1) ∧ L' ≠ 0 := by
  have h60 := hW.a60
  have A := bu_AW hW L' h1
  have L0 : L' ≠ 0 := fun q => by
    rw [q] at h2
    unfold FN at h2
    rw [show cnt (fB (buW P 0)) (aF P) = 0 from cnt_zero.mpr (fun k _ => rfl)] at h2
    omega
  have M := fs_M (buW P L') (n := L') (by omega)
  have val : ∀ j, ¬ buW P L' j = -9 → buW P L' j = nI (L' - 1) := fun j hj => by
    have f0 : FN P (L' - 1) = 0 := by have := h3 (L' - 1) (by omega); omega
    have hja : j < aF P := by
      by_cases z : j < aF P
      · exact z
      · exact absurd (A.2.1 j (by omega)).1 hj
    obtain ⟨t, t1, t2, t3⟩ := (bu_keep hW (L := L' - 1) (M := L') (by omega) h1 j).2 (FN0 f0 hja) hj
    rw [t3, show t = L' - 1 by omega]
  rcases M with ⟨m1, m2⟩ | ⟨m1, m2, m3⟩
  · exfalso
    unfold FN at h2
    rw [cnt_zero.mpr (fun k hk => by
      unfold fB
      by_cases z : k < L'
      · rw [m2 k z]; rfl
      · rw [(A.2.1 k (by omega)).1]; rfl)] at h2
    omega
  · refine ⟨_, m1, rfl, ?_, ?_, L0⟩
    · refine Mn_un (fs_M (buW P (aF P)) (n := aF P) h60) (Or.inr ⟨by omega, ?_, fun j hj hw => ?_⟩)
      · rw [(bu_keep hW h1 (Nat.le_refl _) _).1 m2]; exact m2
      · rw [(bu_keep hW h1 (Nat.le_refl _) (fsN (buW P L') L' 0 100)).1 m2, val _ m2]
        by_cases e : buW P L' j = -9
        · obtain ⟨t, t1, t2, t3⟩ := (bu_keep hW h1 (Nat.le_refl _) j).2 e hw
          rw [t3]
          exact ⟨nI_le (by omega) (by omega), fun q => by have := (nI_leI (by omega) (by omega)).mp q; omega⟩
        · rw [(bu_keep hW h1 (Nat.le_refl _) j).1 e, val j e]
          have jl : j < L' := by
            by_cases z : j < L'
            · exact z
            · exact absurd (A.2.1 j (by omega)).1 e
          refine ⟨nI_le (Nat.le_refl _) (by omega), fun _ => ?_⟩
          refine (m3 j jl e).2 ?_
          rw [val j e, val _ m2]
          exact nI_le (Nat.le_refl _) (by omega)
    · rw [(bu_keep hW h1 (Nat.le_refl _) _).1 m2, val _ m2]
theorem st_falls : ST_falls INV := by
  intro h hI
  have x := hI.2.2.2.2.2
  rcases home x with ⟨a1, a2, -⟩ | ⟨a1, a2, P, L, w, c, H⟩
  · refine ⟨-4, h, h, ?_, ?_, hI⟩
    · unfold f_X7_falls
      rw [if_pos a1]
    · unfold f_X8_falls
      rw [if_pos ib04', tn0, if_pos a2]
  · have h60 := H.1.a60
    obtain ⟨B1, g1, R1⟩ := c_own0 H
    obtain ⟨L', B', k1, R', D', k2, k3, k4⟩ := c_raise (h := h) (o := 110) H.1 (m := 0) (by decide) R1
    have fl := FN_le P L'
    have mo := FN_mono H.1 k2 (Nat.le_refl _)
    by_cases e : FN P L' = 0
    · have ea : L' = aF P := by rcases k3 with k3 | k3 <;> omega
      have f9 : fsN (buW P (aF P)) (aF P) 0 100 = 100 := by
        rcases fs_M (buW P (aF P)) (n := aF P) h60 with ⟨z, -⟩ | ⟨z1, z2, -⟩
        · exact z
        · exact absurd (FN0 (by rw [← ea]; exact e) z1) z2
      refine ⟨-9, setB h 110 B', _, ?_, ?_, inv_tr hI (B := B') (P := P) (L := aF P) (w := buW P (aF P)) (c := c0)⟩
      · unfold f_X7_falls
        rw [if_neg (by rw [a1]; decide), g1, Option.bind_some, show (0 : Int32) = nI 0 from rfl, k1, Option.bind_some, if_pos (by rw [e])]
      · unfold f_X8_falls
        rw [if_pos ib04', tn0, sb_o (by omega), if_neg (by rw [a2]; decide), m_ownA (H.e0 (sb_o (by omega))), Option.bind_some, m_builds lk4_ok H.1, Option.bind_some, m_first lk4_ok h60, Option.bind_some, f9, if_pos (show cv 100 = -9 from rfl)]
    · obtain ⟨x, z1, z2, z3, z4, z5⟩ := first_same H.1 k2 (by omega) k4
      have e9 : cv x = nI x := cv_n (by omega)
      refine ⟨nI (L' - 1), wr (setB h 110 B') 0 13 (nI x), _, ?_, ?_, inv_trT hI (B := B') (P := P) (L := aF P) (w := buW P (aF P)) (c := c0) (v := nI x)⟩
      · unfold f_X7_falls
        rw [if_neg (by rw [a1]; decide), g1, Option.bind_some, show (0 : Int32) = nI 0 from rfl, k1, Option.bind_some, if_neg (fun q => e ((nI_eq (by omega) (by decide)).mp q)), c_first D' (by omega), Option.bind_some, z2, e9, nm_eq, wr_row (by omega), sb_0, D'.1, nI_p z5]
      · unfold f_X8_falls
        have r1 : (wr (setB h 110 B') 0 13 (nI x)).1 161 = h.1 161 := by rw [wr_row (by omega), sb_o (by omega)]
        rw [if_pos ib04', tn0, wr_row (by omega), sb_o (by omega), if_neg (by rw [a2]; decide), m_ownA (H.e0 r1), Option.bind_some, m_builds lk4_ok H.1, Option.bind_some, m_first lk4_ok h60, Option.bind_some, z3, e9, if_neg (nI_m9 (by omega)), v_w lk4_ok (by omega), Option.bind_some, z4]
        rfl
end INV
