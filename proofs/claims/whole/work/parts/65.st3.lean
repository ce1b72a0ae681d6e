section INV
variable {h h' : TT} {o k b q : Nat} {B : Nat → Nat → Int32} {P : Nat → Int32} {L : Nat} {w c g : Nat → Int32}
theorem m_door_n (ok : MOK h b) (hW : WF P) (hL : L ≤ 60) {x1 : Int32} (hc : ∀ i, ¬ c i = 1) : ∀ (d f i : Nat), i + d = zF P 0 → d < f → f_X8_door_44 f x1 (nI i) (MSt h b P L w c) = if x1 < nI (zF P 0) then (f_X8_hasSlumped (MSt h b P L w c) x1).bind fun r13 => (if r13 = 0 then (f_X8_put_ (MSt h b P L w c) ((92 : Int32) + x1) (1 : Int32)).bind fun h15 => (f_X8_settles h15).bind fun h16 => (f_X8_slumpedMany h16).bind fun r17 => some (r17, h16) else (f_X8_meets (MSt h b P L w c) (3 : Int32)).bind fun q18 => some (q18.1, q18.2)) else some ((-1 : Int32), MSt h b P L w c) := by
  have m1 := hW.1.1
  have z := hW.1.2.2.1 0 (by omega)
  have sz : f_X8_size (MSt h b P L w c) 0 = some (nI (zF P 0)) := m_size (y := 0) ok hW (by omega)
  intro d
  induction d with
  | zero =>
    intro f i hi hf
    obtain ⟨f, rfl⟩ : ∃ g, f = g + 1 := ⟨f - 1, by omega⟩
    rw [f_X8_door_44, sz, Option.bind_some, if_pos (nI_le (by omega) (by omega)), Option.bind_some]
  | succ d ih =>
    intro f i hi hf
    obtain ⟨f, rfl⟩ : ∃ g, f = g + 1 := ⟨f - 1, by omega⟩
    rw [f_X8_door_44, sz, Option.bind_some, if_neg (nI_ge (by omega) (by omega)), m_cut ok (by omega), Option.bind_some, if_pos (bI_f (decide_eq_false (hc i))), nI_1]
    exact ih f (i + 1) (by omega) (by omega)
theorem m_door_c (ok : MOK h b) (hW : WF P) (hL : L ≤ 60) {x1 : Int32} {p : Nat} (hp : p < zF P 0) (hc : c p = 1) : ∀ (d f i : Nat), i + d = p → d < f → f_X8_door_44 f x1 (nI i) (MSt h b P L w c) = some (-4, MSt h b P L w c) := by
  have m1 := hW.1.1
  have z := hW.1.2.2.1 0 (by omega)
  have sz : f_X8_size (MSt h b P L w c) 0 = some (nI (zF P 0)) := m_size (y := 0) ok hW (by omega)
  intro d
  induction d with
  | zero =>
    intro f i hi hf
    obtain ⟨f, rfl⟩ : ∃ g, f = g + 1 := ⟨f - 1, by omega⟩
    rw [f_X8_door_44, sz, Option.bind_some, if_neg (nI_ge (by omega) (by omega)), m_cut ok (by omega), Option.bind_some, if_neg (bI_t (decide_eq_true (by rw [show i = p by omega]; exact hc)))]
  | succ d ih =>
    intro f i hi hf
    obtain ⟨f, rfl⟩ : ∃ g, f = g + 1 := ⟨f - 1, by omega⟩
    rw [f_X8_door_44, sz, Option.bind_some, if_neg (nI_ge (by omega) (by omega)), m_cut ok (by omega), Option.bind_some, nI_1, ih f (i + 1) (by omega) (by omega)]
    by_cases e : bI (decide (c i = 1)) = 0
    · rw [if_pos e]
    · rw [if_neg e]
theorem lk_meet (h : TT) (f : Nat) : hMeet (lk0 h) f = lk0 (hMeet h f) := by
  unfold hMeet lk0
  refine Prod.ext (funext fun a => funext fun j => ?_) rfl
  simp only [wr_1]
  by_cases z1 : a = 148 ∧ j = f
  · rw [if_pos z1, if_neg (by omega), if_pos z1, if_neg (by omega)]
  · rw [if_neg z1]
    by_cases z2 : a = 147 ∧ j = 0
    · rw [if_pos z2, if_neg (by omega), if_neg z1, if_pos z2]
    · rw [if_neg z2]
      by_cases z3 : a = 147 ∧ j = 22
      · rw [if_pos z3, if_pos z3]
      · rw [if_neg z3, if_neg z3, if_neg z1, if_neg z2]
theorem hFind_r {i f : Nat} (h1 : i ≠ 0) (h2 : i ≠ 146) : (hFind h f).1 i = h.1 i := by unfold hFind; rw [wr_row h2, wr_row h1]
theorem st_door : ST_door INV := by
  intro h hI x1
  have x := hI.2.2.2.2.2
  by_cases e : 0 ≤ x1 ∧ x1 < 12
  · have e' : 0 ≤ x1 ∧ x1 ≤ 11 := (le_pred (n := 12) (Or.inl (by decide))).mpr e
    obtain ⟨p, hp, rfl⟩ := nI_of2 (M := 11) (n := 11) rfl (le_nlt e.1) e'.2
    rcases home x with ⟨a1, a2, -⟩ | ⟨a1, a2, P, L, w, c, H⟩
    · refine ⟨-4, h, lk0 h, ?_, ?_, inv_lk hI⟩
      · unfold f_X7_door
        rw [f_below, Option.bind_some, if_pos e, if_neg n1_0, if_pos a1]
      · unfold f_X8_door
        rw [f_in, Option.bind_some, if_pos e', if_neg n1_0, m_look0, Option.bind_some, if_pos ib04', tn0, lk0_r (by omega), if_pos a2]
    · have hL := H.2.2.2.1.1
      have h60 := H.1.a60
      have m1 := H.1.1.1
      have z := H.1.1.2.2.1 0 (by omega)
      have d4 : h.1 41 4 = nI L := H.2.2.1.1
      have d2 : h.1 (41 + 3) 2 = nI (aF P) := H.2.1.2.2.2.2.2.2.1
      have d6 : CV c (h.1 41 6) := H.2.2.1.2.2.1
      have s0 : h.1 (41 + 3 + 2) 0 = nI (zF P 0) := by
        have : h.1 (41 + 5) 0 = P (8 + 3 * 0) := (H.2.1.2.2.2.2.2.2.2.2.1 0 (by omega)).2.1
        exact this.trans (H.1.2.2.2.2.2.2.2 0 (by omega)).1
      have mh : ∀ g : TT, g.1 160 = h.1 160 → g.1 161 = h.1 161 → f_X8_door g (nI p) = if nI (aF P) ≤ nI L then f_X8_door_44 KF (nI p) 0 (MSt (lk0 g) 0 P L w c) else some (-4, lk0 g) := fun g g0 g1 => by
        unfold f_X8_door
        have q1 := v_L (h := lk0 g) (b := 0) (P := P) (L := L) (w := w) (c := c) lk0_ok
        have q2 := m_all (h := lk0 g) (b := 0) (L := L) (w := w) (c := c) lk0_ok H.1
        rw [← H.ms g1] at q1 q2 ⊢
        rw [f_in, Option.bind_some, if_pos e', if_neg n1_0, m_look0, Option.bind_some, if_pos ib04', tn0, lk0_r (by omega), g0, if_neg (by rw [a2]; decide), q1, Option.bind_some, q2, Option.bind_some]
      by_cases eL : L < aF P
      · refine ⟨-4, h, lk0 h, ?_, ?_, inv_lk hI⟩
        · unfold f_X7_door
          rw [f_below, Option.bind_some, if_pos e, if_neg n1_0, if_neg (by rw [a1]; decide), d4, d2, if_pos (nI_lt eL (by omega))]
        · rw [mh h rfl rfl, if_neg (nI_ge eL (by omega))]
      · have eL' : L = aF P := by omega
        have c0d : f_X7_door h (nI p) = (if (h.1 41 6) < 0 then (if nI p < nI (zF P 0) then (if sV L w c p = (2 : Int32) then (f_X7_found h (3 : Int32)).bind fun q10 => some (q10.1, q10.2) else (f_X0_cutOut h 41 (nI p)).bind fun h11 => some (h11.1 41 5, h11)) else some ((-1 : Int32), h)) else some ((-4 : Int32), h)) := by
          unfold f_X7_door
          have d7 : h.1 (41 + 7) p = sV L w c p := (H.2.2.1.2.2.2.1 p (by omega)).1
          rw [f_below, Option.bind_some, if_pos e, if_neg n1_0, if_neg (by rw [a1]; decide), d4, d2, if_neg (nI_nlt (by omega) (by omega)), if_pos (show inb 0 8 = true by decide), tn0, s0, if_pos (inb_nI (by omega) (by decide)), nI_clamp (by omega), d7]
        have md : ∀ g : TT, g.1 160 = h.1 160 → g.1 161 = h.1 161 → f_X8_door g (nI p) = f_X8_door_44 KF (nI p) (nI 0) (MSt (lk0 g) 0 P L w c) := fun g g0 g1 => by
          rw [mh g g0 g1, if_pos (nI_le (by omega) (by omega))]
          rfl
        rcases d6 with ⟨u1, u2⟩ | ⟨p0, u0, u1, u2, u3⟩
        · rw [u2, if_pos (by decide)] at c0d
          have mn : ∀ g : TT, _ := fun g : TT => m_door_n (h := lk0 g) (b := 0) (P := P) (L := L) (w := w) (c := c) lk0_ok H.1 (by omega) (x1 := nI p) u1 (zF P 0) KF 0 (by omega) (by have := KF_ge; omega)
          by_cases ep : p < zF P 0
          · rw [if_pos (nI_lt ep (by omega))] at c0d
            have hpL : p < L := by
              have := sF_all (P := P) (y := 0) (by omega)
              have s00 : sF P 0 = 0 := rfl
              omega
            by_cases ew : w p = -9
            · rw [if_neg (fun z => by have := (fB_sV (w := w) (c := c) hpL).mp z; unfold fB at this; rw [decide_eq_true ew] at this; cases this)] at c0d
              obtain ⟨B', g1, R', D', A'⟩ := c_cut (h := h) (o := 41) H.1 H.2.1 H.2.2.1 H.2.2.2.1 eL' ep ew u1
              rw [setB_id] at g1
              have hC : CU (upd c p 1) := D'.2.2.1.cu
              refine ⟨nI (cnt (fB (SE P L (upd c p 1) w)) L), setB h 41 B', MSt (lk0 (setB h 41 B')) 0 P L (SE P L (upd c p 1) w) (upd c p 1), ?_, ?_, inv_home hI a2 H.1 R' D' A' (SE_stab (by omega) _)⟩
              · rw [c0d, g1, Option.bind_some, sb_0, D'.2.1, cnt_L A']
              · rw [md _ (sb_o (by omega)) (sb_o (by omega)), mn (setB h 41 B'), if_pos (nI_lt ep (by omega)), m_slumped lk0_ok (by omega), Option.bind_some, if_pos (bI_f (by unfold fB; rw [decide_eq_true ew]; rfl)), put_c lk0_ok (by omega), Option.bind_some, m_settles lk0_ok H.1 hL hC, Option.bind_some, m_many lk0_ok (by omega)]
                rfl
            · rw [if_pos ((fB_sV hpL).mpr (by unfold fB; rw [decide_eq_false ew]; rfl))] at c0d
              refine ⟨-3, hFind h 3, hMeet (lk0 (hFind h 3)) 3, ?_, ?_, ?_⟩
              · rw [c0d]
                exact fm_find h (by decide) rfl
              · rw [md _ (hFind_r (by omega) (by omega)) (hFind_r (by omega) (by omega)), mn (hFind h 3), if_pos (nI_lt ep (by omega)), m_slumped lk0_ok (by omega), Option.bind_some, if_neg (bI_t (by unfold fB; rw [decide_eq_false ew]; rfl)), ← H.ms (hFind_r (by omega) (by omega))]
                exact fm_meet _ (by decide) rfl
              · rw [lk_meet]
                exact inv_lk (inv_find XX_fr.frx hI (by decide))
          · rw [if_neg (nI_nlt (by omega) (by omega))] at c0d
            refine ⟨-1, h, lk0 h, c0d, ?_, inv_lk hI⟩
            rw [md h rfl rfl, mn h, if_neg (nI_nlt (by omega) (by omega)), ← H.ms rfl]
        · rw [u2, if_neg (nI_pos (by omega))] at c0d
          refine ⟨-4, h, lk0 h, c0d, ?_, inv_lk hI⟩
          have hz := (H.2.2.2.1.2.2 p0 u1).2.1
          rw [md h rfl rfl, m_door_c lk0_ok H.1 (by omega) hz u1 p0 KF 0 (by omega) (by have := KF_ge; omega), ← H.ms rfl]
  · have e' : ¬ (0 ≤ x1 ∧ x1 ≤ 11) := fun z => e ((le_pred (n := 12) (Or.inl (by decide))).mp z)
    refine ⟨-1, h, h, ?_, ?_, hI⟩
    · unfold f_X7_door
      rw [f_below, Option.bind_some, if_neg e]; rfl
    · unfold f_X8_door
      rw [f_in, Option.bind_some, if_neg e']; rfl
theorem setG_id : setG h b (fun j => h.1 161 (b + j)) = h := by
  refine Prod.ext (funext fun a => funext fun j => ?_) rfl
  show (wrow h 161 _).1 a j = _
  rw [wrow_1]
  by_cases q : a = 161
  · subst q
    rw [if_pos rfl]
    by_cases q2 : b ≤ j ∧ j < b + 152
    · rw [if_pos q2]
      show h.1 161 (b + (j - b)) = _
      rw [show b + (j - b) = j by omega]
    · rw [if_neg q2]
  · rw [if_neg q]
theorem m_beginsG (ok : MOK h b) : f_X8_begins (setG h b g) = some (MSt h b g 0 w0 c0) := by
  unfold f_X8_begins
  have e : setG h b (upd g 31 (nI 0)) = MSt h b g 0 (fun i => g (32 + i)) (fun i => g (92 + i)) := by
    refine setG_cg (fun k hk => ?_)
    rw [upd_cases]
    unfold mkG
    by_cases e1 : k = 31
    · rw [if_pos e1, if_neg (by omega), if_pos e1]
    · rw [if_neg e1]
      by_cases e2 : k < 31
      · rw [if_pos e2]
      · rw [if_neg e2, if_neg e1]
        by_cases e3 : k < 92
        · rw [if_pos e3]
          show g k = g (32 + (k - 32))
          rw [show 32 + (k - 32) = k by omega]
        · rw [if_neg e3]
          show g k = g (92 + (k - 92))
          rw [show 92 + (k - 92) = k by omega]
  rw [show (31 : Int32) = nI 31 from rfl, show (0 : Int32) = nI 0 from rfl, put_g ok (by omega), Option.bind_some, e, m_begins9 ok 60 KF 0 _ _ (by omega) (by decide)]
  congr 1
theorem k4s (s i : Nat) : (4 : Int32) * nI s + nI i = nI (4 * s + i) := by
  rw [show (4 : Int32) = nI 4 from rfl, pk_mul, nI_add]
theorem k26 (k : Nat) : (26 : Int32) * nI k = nI (26 * k) := by
  rw [show (26 : Int32) = nI 26 from rfl, pk_mul]
theorem m_lay72 (ok : MOK h b) {k : Nat} (hk : k < 4) : ∀ (d f i : Nat) (g : Nat → Int32), i + d = 24 → d < f → f_X8_layHouse_72 f (nI k) (nI i) (setG h b g) = some (setG h b (fun j => if 7 + i ≤ j ∧ j < 31 then h.1 157 (26 * k + 2 + (j - 7)) else g j)) := by
  intro d
  induction d with
  | zero =>
    intro f i g hi hf
    obtain ⟨f, rfl⟩ : ∃ g, f = g + 1 := ⟨f - 1, by omega⟩
    rw [f_X8_layHouse_72, if_pos (show (24 : Int32) ≤ nI i from nI_le (a := 24) (by omega) (by omega))]
    congr 1
    exact setG_cg (fun j hj => by rw [if_neg (by omega)])
  | succ d ih =>
    intro f i g hi hf
    obtain ⟨f, rfl⟩ : ∃ g, f = g + 1 := ⟨f - 1, by omega⟩
    rw [f_X8_layHouse_72, if_neg (show ¬ (24 : Int32) ≤ nI i from nI_ge (b := 24) (by omega) (by omega)), k26, show nI (26 * k) + 2 = nI (26 * k + 2) from nI_add _ 2, nI_add, if_pos (inb_nI (by omega) (by decide)), nI_clamp (by omega), setG_o (by omega), show (7 : Int32) + nI i = nI (7 + i) from nI_add 7 i, put_g ok (by omega), Option.bind_some, nI_1, ih f (i + 1) _ (by omega) (by omega)]
    congr 1
    refine setG_cg (fun j hj => ?_)
    by_cases e1 : 7 + (i + 1) ≤ j ∧ j < 31
    · rw [if_pos e1, if_pos (by omega)]
    · rw [if_neg e1, upd_cases]
      by_cases e2 : j = 7 + i
      · rw [if_pos e2, if_pos (by omega), show 26 * k + 2 + (j - 7) = 26 * k + 2 + i by omega]
      · rw [if_neg e2, if_neg (by omega)]
theorem m_lay3 (ok : MOK h b) {s k : Nat} (hs : s < 4) (hk : k < 4) (x : Int32) : ∀ (d f i : Nat) (g : Nat → Int32), i + d = 4 → d < f → f_X8_layHouse_3 f (nI s) (nI k) x (nI i) (setG h b g) = some (setG h b (fun j => if i ≤ j ∧ j < 31 then PP h s k x j else g j)) := by
  intro d
  induction d with
  | zero =>
    intro f i g hi hf
    obtain ⟨f, rfl⟩ : ∃ g, f = g + 1 := ⟨f - 1, by omega⟩
    rw [f_X8_layHouse_3, if_pos (show (4 : Int32) ≤ nI i from nI_le (a := 4) (by omega) (by omega)), k26, nI_1, if_pos (inb_nI (by omega) (by decide)), nI_clamp (by omega), setG_o (by omega), show (4 : Int32) = nI 4 from rfl, put_g ok (by omega), Option.bind_some, show (5 : Int32) = nI 5 from rfl, put_g ok (by omega), Option.bind_some, if_pos (inb_nI (by omega) (by decide)), nI_clamp (by omega), setG_o (by omega), show (6 : Int32) = nI 6 from rfl, put_g ok (by omega), Option.bind_some, show (0 : Int32) = nI 0 from rfl, m_lay72 ok hk 24 KF 0 _ (by omega) (by decide)]
    congr 1
    refine setG_cg (fun j hj => ?_)
    unfold PP
    rw [upd_cases, upd_cases, upd_cases]
    by_cases e1 : 7 + 0 ≤ j ∧ j < 31
    · rw [if_pos e1, if_pos (by omega), if_neg (by omega), if_neg (by omega), if_neg (by omega), if_neg (by omega)]
    · rw [if_neg e1]
      by_cases e6 : j = 6
      · rw [if_pos e6, if_pos (by omega), if_neg (by omega), if_neg (by omega), if_neg (by omega), if_pos e6]
      · rw [if_neg e6]
        by_cases e5 : j = 5
        · rw [if_pos e5, if_pos (by omega), if_neg (by omega), if_neg (by omega), if_pos e5]
        · rw [if_neg e5]
          by_cases e4 : j = 4
          · rw [if_pos e4, if_pos (by omega), if_neg (by omega), if_pos e4]
          · rw [if_neg e4, if_neg (by omega)]
  | succ d ih =>
    intro f i g hi hf
    obtain ⟨f, rfl⟩ : ∃ g, f = g + 1 := ⟨f - 1, by omega⟩
    rw [f_X8_layHouse_3, if_neg (show ¬ (4 : Int32) ≤ nI i from nI_ge (b := 4) (by omega) (by omega)), k4s, if_pos (inb_nI (by omega) (by decide)), nI_clamp (by omega), setG_o (by omega), put_g ok (by omega), Option.bind_some, nI_1, ih f (i + 1) _ (by omega) (by omega)]
    congr 1
    refine setG_cg (fun j hj => ?_)
    by_cases e1 : i + 1 ≤ j ∧ j < 31
    · rw [if_pos e1, if_pos (by omega)]
    · rw [if_neg e1, upd_cases]
      by_cases e2 : j = i
      · rw [if_pos e2, if_pos (by omega)]
        unfold PP
        rw [if_pos (by omega), e2]
      · rw [if_neg e2, if_neg (by omega)]
theorem m_layG (ok : MOK h b) {s k : Nat} (hs : s < 4) (hk : k < 4) (x : Int32) : f_X8_layHouse (setG h b g) (nI s) (nI k) x = some (setG h b (fun j => if 0 ≤ j ∧ j < 31 then PP h s k x j else g j)) := m_lay3 ok hs hk x 4 KF 0 g (by omega) (by decide)
/-- snow s and plan k are there: the house of them -/
theorem PP_W {s k : Nat} (hS : SNX h s) (hs1 : h.1 154 s = 1) (hP : PLX h k) (hp1 : h.1 156 k = 1) {x : Int32} (hx : x = 1 ∨ x = 2) : WF (PP h s k x) ∧ mF (PP h s k x) = gn (QF h k) 0 ∧ zF (PP h s k x) = qz (QF h k) ∧ aF (PP h s k x) = st (qz (QF h k)) (gn (QF h k) 0) := by
  obtain ⟨-, hS2⟩ := hS
  obtain ⟨-, hP2⟩ := hP
  rcases hS2 with hS2 | ⟨-, s2, s3, s4, s5, s6⟩
  · rw [hs1] at hS2; exact absurd hS2 (by decide)
  rcases hP2 with hP2 | ⟨-, ⟨q1, q2, q3, q4, q5⟩, -⟩
  · rw [hp1] at hP2; exact absurd hP2 (by decide)
  have v4 : PP h s k x 4 = QF h k 1 := rfl
  have v5 : PP h s k x 5 = x := rfl
  have v6 : PP h s k x 6 = QF h k 0 := rfl
  have vy : ∀ j, PP h s k x (7 + j) = QF h k (2 + j) := fun j => by
    unfold PP QF
    rw [if_neg (by omega), if_neg (by omega), if_neg (by omega), if_neg (by omega), show 26 * k + 2 + (7 + j - 7) = 26 * k + (2 + j) by omega]
  have vs : ∀ j, j < 4 → PP h s k x j = h.1 155 (4 * s + j) := fun j hj => if_pos hj
  have gy : ∀ j, gn (PP h s k x) (7 + j) = gn (QF h k) (2 + j) := fun j => by unfold gn; rw [vy]
  have gs : ∀ j, j < 4 → gn (PP h s k x) j = gn (h.1 155) (4 * s + j) := fun j hj => by unfold gn; rw [vs j hj]
  have hm : mF (PP h s k x) = gn (QF h k) 0 := by unfold mF gn; rw [v6]
  have hz : zF (PP h s k x) = qz (QF h k) := funext fun y => by
    unfold zF qz
    rw [show 8 + 3 * y = 7 + (1 + 3 * y) by omega, gy, show 2 + (1 + 3 * y) = 3 + 3 * y by omega]
  refine ⟨⟨by rw [hm, hz]; exact q1, fun j hj => ?_, ?_, ?_, ?_, ?_, ?_, fun y hy => ?_⟩, hm, hz, by unfold aF; rw [hm, hz]⟩
  · by_cases e : j < 4
    · rw [gs j e, vs j e]; exact (s2 j e).2
    · rcases (show j = 4 ∨ j = 5 ∨ j = 6 by omega) with rfl | rfl | rfl
      · show QF h k 1 = nI (QF h k 1).toNatClampNeg
        exact q3
      · show x = nI x.toNatClampNeg
        rcases hx with rfl | rfl <;> rfl
      · show QF h k 0 = nI (QF h k 0).toNatClampNeg
        exact q2
  · rw [gs 0 (by omega)]; exact s3
  · rw [gs 1 (by omega)]; exact s4
  · rw [gs 2 (by omega)]; exact s5
  · rw [gs 3 (by omega)]; exact s6
  · show (QF h k 1).toNatClampNeg ≤ 9
    exact q4
  · rw [hm] at hy
    obtain ⟨r1, r2, r3⟩ := q5 y hy
    rw [hz, show 8 + 3 * y = 7 + (1 + 3 * y) by omega, show 9 + 3 * y = 7 + (2 + 3 * y) by omega, vy, vy, gy, show 2 + (1 + 3 * y) = 3 + 3 * y by omega, show 2 + (2 + 3 * y) = 4 + 3 * y by omega]
    exact ⟨r1, r2, r3⟩
theorem c_beginX {s k : Nat} (hS : SNX h s) (hs1 : h.1 154 s = 1) (hP : PLX h k) (hp1 : h.1 156 k = 1) {x : Int32} (hx : x = 1 ∨ x = 2) (hs : s < 4) (hk : k < 4) (ho : 41 ≤ o ∧ o ≤ 110) {B : Nat → Nat → Int32} : ∃ B', f_X0_begin (setB h o B) o (16 + 2 * s) (25 + 4 * k) x = some (setB h o B') ∧ RS B' (PP h s k x) ∧ RD B' (PP h s k x) 0 w0 c0 := by
  obtain ⟨W1, W2, W3, W4⟩ := PP_W hS hs1 hP hp1 hx
  have hS0 := hS
  have hP0 := hP
  obtain ⟨hS1, hS2⟩ := hS
  obtain ⟨hP1, hP2⟩ := hP
  rcases hS2 with hS2 | ⟨-, s2, -⟩
  · rw [hs1] at hS2; exact absurd hS2 (by decide)
  rcases hP2 with hP2 | ⟨-, -, q1, q2, q3, q4⟩
  · rw [hp1] at hP2; exact absurd hP2 (by decide)
  refine c_begin W1 (hS1.trans hs1) (fun j hj => ?_) (hP1.trans hp1) q1 (by rw [W4]; exact q2) q3 rfl (fun y hy => ?_) (by omega) (by omega)
  · rw [show 16 + 2 * s + 1 = 17 + 2 * s by omega, (s2 j hj).1]
    exact (if_pos hj).symm
  · rw [W2] at hy
    obtain ⟨r1, r2, r3⟩ := q4 y hy
    have vy : ∀ j, PP h s k x (7 + j) = QF h k (2 + j) := fun j => by
      unfold PP QF
      rw [if_neg (by omega), if_neg (by omega), if_neg (by omega), if_neg (by omega), show 26 * k + 2 + (7 + j - 7) = 26 * k + (2 + j) by omega]
    rw [show 25 + 4 * k + 1 = 26 + 4 * k by omega, show 25 + 4 * k + 2 = 27 + 4 * k by omega, show 25 + 4 * k + 3 = 28 + 4 * k by omega, show 8 + 3 * y = 7 + (1 + 3 * y) by omega, show 9 + 3 * y = 7 + (2 + 3 * y) by omega, vy, vy, vy, show 2 + (1 + 3 * y) = 3 + 3 * y by omega, show 2 + (2 + 3 * y) = 4 + 3 * y by omega]
    exact ⟨r1, r2, r3⟩
end INV
