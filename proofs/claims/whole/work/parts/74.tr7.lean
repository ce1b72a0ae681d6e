section INV
variable {h h' g s : TT} {o k b q : Nat} {B B' : Nat → Nat → Int32} {P P' Q : Nat → Int32} {L L' : Nat} {w c w' c' rw' : Nat → Int32}
theorem lk40 (h : TT) : lk4 (lk0 h) = lk4 h := by
  unfold lk4 lk0
  refine Prod.ext (funext fun x => funext fun y => ?_) rfl
  rw [wr_1, wr_1, wr_1]
  by_cases e : x = 147 ∧ y = 22
  · rw [if_pos e, if_pos e]
  · rw [if_neg e, if_neg e, if_neg e]
theorem st_fell : ST_fell INV := by
  intro h hI x1
  have x := hI.2.2.2.2.2
  rcases place x1 6 (by decide) with ⟨r, hr, rfl⟩ | hb
  · rcases home x with ⟨a1, a2, -⟩ | ⟨a1, a2, P, L, w, c, H⟩
    · refine ⟨-4, h, h, ?_, ?_, hI⟩
      · unfold f_X7_fell
        rw [f_below, Option.bind_some, if_pos (lt6 hr).1, if_neg n1_0, if_pos a1]
      · unfold f_X8_fell
        rw [f_isRow, Option.bind_some, if_pos (lt6 hr).2, if_neg n1_0, if_pos ib04', tn0, if_pos a2]
    · have h60 := H.1.a60
      have d2 : h.1 (41 + 3) 2 = nI (aF P) := H.2.1.2.2.2.2.2.2.1
      have cm : ∀ y : Int32, h.1 8 r = y → f_X7_fell h (nI r) = (if 0 ≤ y then (if y = nI (aF P) then (f_X7_onesOf h (nI r)).bind fun r8 => (if 0 ≤ r8 then (f_X0_takeFrom h 110 41).bind fun h10 => f_X7_fell_100 KF (nI r) r8 (-9 : Int32) (0 : Int32) (0 : Int32) h10 else (f_X7_found h (3 : Int32)).bind fun q22 => some (q22.1, q22.2)) else (f_X7_found h (5 : Int32)).bind fun q23 => some (q23.1, q23.2)) else (f_X7_found h (1 : Int32)).bind fun q24 => some (q24.1, q24.2)) := fun y hy => by
        unfold f_X7_fell
        rw [f_below, Option.bind_some, if_pos (lt6 hr).1, if_neg n1_0, if_neg (by rw [a1]; decide), if_pos (inb_nI hr (by decide)), nI_clamp (by omega), hy, if_pos (inb_nI hr (by decide)), d2]
      have mm : ∀ (g : TT) (y : Int32), g.1 160 = h.1 160 → g.1 161 = h.1 161 → g.1 149 r = y → f_X8_fell g (nI r) = (if 0 ≤ y then (if y = nI (aF P) then f_X8_fell_64 KF (nI r) (1 : Int32) (0 : Int32) (lk0 g) else (f_X8_meets (lk0 g) (5 : Int32)).bind fun q30 => some (q30.1, q30.2)) else (f_X8_meets g (1 : Int32)).bind fun q31 => some (q31.1, q31.2)) := fun g y g0 g1 gy => by
        unfold f_X8_fell
        have qa := m_all (h := lk0 g) (b := 0) (L := L) (w := w) (c := c) lk0_ok H.1
        rw [← H.ms g1] at qa
        rw [f_isRow, Option.bind_some, if_pos (lt6 hr).2, if_neg n1_0, if_pos ib04', tn0, g0, if_neg (by rw [a2]; decide), if_pos (inb_nI hr (by decide)), nI_clamp (by omega), gy, m_look0, Option.bind_some, if_pos (inb_nI hr (by decide)), qa, Option.bind_some, lk0_r (by omega), gy]
      rcases rcase hI.2.2.2.1 hr with ⟨u1, u2⟩ | ⟨n, hn, u1, u2⟩
      · refine ⟨-3, hFind h 1, hMeet (hFind h 1) 1, ?_, ?_, inv_find XX_fr.frx hI (by decide)⟩
        · rw [cm _ u1, if_neg m1_neg]
          exact fm_find h (by decide) rfl
        · rw [mm (hFind h 1) (-1) (hFind_r (by omega) (by omega)) (hFind_r (by omega) (by omega)) (by rw [hFind_r (by omega) (by omega)]; exact u2), if_neg m1_neg]
          exact fm_meet _ (by decide) rfl
      · have cm := cm _ u1
        rw [if_pos (nI_pos' (by omega))] at cm
        have mm := fun (g : TT) g0 g1 gy => mm g (nI n) g0 g1 gy
        by_cases en : n = aF P
        · have hsz : ∀ i, i < 60 → h.1 (2 + r) i = h.1 150 (60 * r + i) := (hI.2.2.2.1 r hr).2.2
          have on := c_ones (h := h) hr hn u1 n KF 0 (by omega) (by have := KF_ge; omega) rfl
          have on : f_X7_onesOf h (nI r) = some (if cnt (bdB (h.1 (2 + r))) n = 0 then nI (cnt (onB (h.1 (2 + r))) n) else -1) := on
          have ocl := cnt_le (onB (h.1 (2 + r))) n
          rw [if_pos (by rw [en]), on, Option.bind_some] at cm
          have m64 : ∀ g : TT, g.1 149 = h.1 149 → g.1 150 = h.1 150 → f_X8_fell_64 KF (nI r) (1 : Int32) (0 : Int32) (lk0 g) = if (true && decide (cnt (bdB (h.1 (2 + r))) n = cnt (bdB (h.1 (2 + r))) 0)) = false then ((f_X8_meets (lk0 g) (3 : Int32)).bind fun q14 => some (q14.1, q14.2)) else f_X8_fell_123 KF (nI r) (-9 : Int32) (0 : Int32) (0 : Int32) (lk0 g) := fun g e1 e2 =>
            m_f64 (h := lk0 g) (rw' := h.1 (2 + r)) hr hn (by rw [lk0_r (by omega), e1]; exact u2) (fun i hi => by rw [lk0_r (by omega), e2]; exact (hsz i hi).symm) n KF 0 true (by omega) (by have := KF_ge; omega)
          by_cases eb : cnt (bdB (h.1 (2 + r))) n = 0
          · rw [if_pos eb, if_pos (nI_pos' (by omega))] at cm
            obtain ⟨B1, g1, R1⟩ := c_own0 H
            obtain ⟨B', k1⟩ := c_f100 H hr (fun i _ => rfl) (rw' := h.1 (2 + r)) (ones := cnt (onB (h.1 (2 + r))) n) (by rw [en]) 91 KF 0 B1 (by omega) (by decide) ⟨B1, R1, fun _ _ => rfl⟩
            rw [g1, Option.bind_some] at cm
            have cm := cm.trans k1
            have h01 : ∀ i, i < aF P → h.1 (2 + r) i = 0 ∨ h.1 (2 + r) i = 1 := fun i hi => bd_01 (cnt_zero.mp eb i (by omega))
            have mB : ∀ g : TT, g.1 160 = h.1 160 → g.1 161 = h.1 161 → g.1 149 = h.1 149 → g.1 150 = h.1 150 → ∃ s', f_X8_fell g (nI r) = (if ffV (mtB P (h.1 (2 + r))) 91 = -9 then some (-9, s') else some (ffV (mtB P (h.1 (2 + r))) 91, wr s' 147 2 (nI (cnt (mtB P (h.1 (2 + r))) 91)))) ∧ StG (lk0 g) s' := fun g e0 e1 e2 e3 => by
              obtain ⟨s', q1, q2⟩ := m_f123 (g := lk0 g) (rw' := h.1 (2 + r)) H.1 (H.e0 (by rw [lk0_r (by omega), e1])) hr (fun i hi => by rw [lk0_r (by omega), e3]; exact (hsz i hi).symm) h01 100 KF 0 (lk0 g) (by omega) (by decide) (Or.inl rfl)
              rw [(mt_100 H.1).1, (mt_100 H.1).2] at q1
              refine ⟨s', ?_, q2⟩
              rw [mm g e0 e1 (by rw [e2]; exact u2), if_pos (nI_pos' (by omega)), if_pos (by rw [en]), m64 g e2 e3, decide_eq_true (by rw [eb]; rfl), Bool.true_and, if_neg (by decide)]
              exact q1
            have f9 := ff_9 (mtB P (h.1 (2 + r))) 91 (by decide)
            by_cases e0 : cnt (mtB P (h.1 (2 + r))) 91 = 0
            · rw [if_pos e0] at cm
              obtain ⟨s', q1, q2⟩ := mB (setB h 110 B') (sb_o (by omega)) (sb_o (by omega)) (sb_o (by omega)) (sb_o (by omega))
              rw [if_pos (f9.mpr e0)] at q1
              rw [f9.mpr e0] at cm
              refine ⟨-9, _, _, cm, q1, inv_S hI (sct_lk (sct_B (ScT.rf h))) q2 ?_⟩
              unfold lk0
              rw [wr_row (by omega), wr_1, if_neg (by omega), sb_o (by omega), sb_o (by omega)]
              exact hI.1
            · rw [if_neg e0] at cm
              obtain ⟨s', q1, q2⟩ := mB (wr (setB h 110 B') 0 13 (nI (cnt (mtB P (h.1 (2 + r))) 91))) (by rw [wr_row (by omega), sb_o (by omega)]) (by rw [wr_row (by omega), sb_o (by omega)]) (by rw [wr_row (by omega), sb_o (by omega)]) (by rw [wr_row (by omega), sb_o (by omega)])
              rw [if_neg (fun z => e0 (f9.mp z))] at q1
              refine ⟨_, _, _, cm, q1, inv_ST hI (sct_lk (sct_t (sct_B (ScT.rf h)))) q2 ?_⟩
              unfold lk0
              rw [wr_row (by omega), wr_1, if_pos ⟨rfl, rfl⟩]
          · rw [if_neg eb, if_neg m1_neg] at cm
            refine ⟨-3, hFind h 3, hMeet (lk0 (hFind h 3)) 3, cm.trans (fm_find h (by decide) rfl), ?_, ?_⟩
            · rw [mm (hFind h 3) (hFind_r (by omega) (by omega)) (hFind_r (by omega) (by omega)) (by rw [hFind_r (by omega) (by omega)]; exact u2), if_pos (nI_pos' (by omega)), if_pos (by rw [en]), m64 _ (hFind_r (by omega) (by omega)) (hFind_r (by omega) (by omega)), decide_eq_false (fun z => eb (z.trans rfl)), Bool.true_and, if_pos rfl]
              exact fm_meet _ (by decide) rfl
            · rw [lk_meet]
              exact inv_lk (inv_find XX_fr.frx hI (by decide))
        · rw [if_neg (fun z => en ((nI_eq (by omega) (by omega)).mp z))] at cm
          refine ⟨-3, hFind h 5, hMeet (lk0 (hFind h 5)) 5, cm.trans (fm_find h (by decide) rfl), ?_, ?_⟩
          · rw [mm (hFind h 5) (hFind_r (by omega) (by omega)) (hFind_r (by omega) (by omega)) (by rw [hFind_r (by omega) (by omega)]; exact u2), if_pos (nI_pos' (by omega)), if_neg (fun z => en ((nI_eq (by omega) (by omega)).mp z))]
            exact fm_meet _ (by decide) rfl
          · rw [lk_meet]
            exact inv_lk (inv_find XX_fr.frx hI (by decide))
  · refine ⟨-1, h, h, ?_, ?_, hI⟩
    · unfold f_X7_fell
      rw [f_below, Option.bind_some, if_neg (not_lt6 hb).1]; rfl
    · unfold f_X8_fell
      rw [f_isRow, Option.bind_some, if_neg (not_lt6 hb).2]; rfl
/-! storm -/
def thB (h : TT) (k : Nat) : Bool := !decide (h.1 156 k = 0)
theorem c_pt4 (x : ∀ k, k < 4 → PLX h k) : ∀ (d f i : Nat), i + d = 4 → d < f → f_X7_plansThere_4 h f (nI (cnt (thB h) i)) (nI i) = some (nI (cnt (thB h) 4)) := by
  intro d
  induction d with
  | zero =>
    intro f i hi hf
    obtain ⟨f, rfl⟩ : ∃ g, f = g + 1 := ⟨f - 1, by omega⟩
    obtain rfl : i = 4 := by omega
    rw [f_X7_plansThere_4, if_pos (by decide)]
  | succ d ih =>
    intro f i hi hf
    obtain ⟨f, rfl⟩ : ∃ g, f = g + 1 := ⟨f - 1, by omega⟩
    have q := ih f (i + 1) (by omega) (by omega)
    rw [cnt] at q
    rw [f_X7_plansThere_4, if_neg (show ¬ (4 : Int32) ≤ nI i from nI_ge (b := 4) (by omega) (by omega)), if_pos (inb_nI (by omega) (by decide)), nI_clamp (by omega), (x i (by omega)).1]
    unfold f_X7_plansThere_24
    rw [nI_1]
    by_cases e : h.1 156 i = 0
    · rw [show thB h i = false by unfold thB; rw [decide_eq_true e]; rfl] at q
      rw [if_pos e]
      exact q
    · rw [show thB h i = true by unfold thB; rw [decide_eq_false e]; rfl] at q
      rw [if_neg e, nI_1]
      exact q
theorem c_pt (x : ∀ k, k < 4 → PLX h k) : f_X7_plansThere h = some (nI (cnt (thB h) 4)) := c_pt4 x 4 KF 0 (by omega) (by decide)
theorem m_ap4 : ∀ (d f i : Nat), i + d = 4 → d < f → f_X8_isAnyPlan_4 h f (bI (decide (cnt (thB h) i ≠ 0))) (nI i) = some (bI (decide (cnt (thB h) 4 ≠ 0))) := by
  intro d
  induction d with
  | zero =>
    intro f i hi hf
    obtain ⟨f, rfl⟩ : ∃ g, f = g + 1 := ⟨f - 1, by omega⟩
    obtain rfl : i = 4 := by omega
    rw [f_X8_isAnyPlan_4, if_pos (by decide)]
    cases decide (cnt (thB h) 4 ≠ 0) <;> rfl
  | succ d ih =>
    intro f i hi hf
    obtain ⟨f, rfl⟩ : ∃ g, f = g + 1 := ⟨f - 1, by omega⟩
    have q := ih f (i + 1) (by omega) (by omega)
    rw [cnt] at q
    rw [f_X8_isAnyPlan_4, if_neg (show ¬ (4 : Int32) ≤ nI i from nI_ge (b := 4) (by omega) (by omega))]
    unfold f_X8_isAnyPlan_22 f_X8_isAnyPlan_27
    rw [nI_1, if_pos (inb_nI (by omega) (by decide)), nI_clamp (by omega)]
    by_cases e0 : cnt (thB h) i = 0
    · rw [if_pos (bI_f (decide_eq_false (fun z => z e0)))]
      by_cases e : h.1 156 i = 0
      · rw [show thB h i = false by unfold thB; rw [decide_eq_true e]; rfl, e0] at q
        rw [if_pos e]
        exact q
      · rw [show thB h i = true by unfold thB; rw [decide_eq_false e]; rfl, e0] at q
        rw [if_neg e]
        exact q
    · rw [if_neg (bI_t (decide_eq_true e0))]
      rw [decide_eq_true (by omega)] at q
      exact q
theorem m_ap (h : TT) : f_X8_isAnyPlan h = some (bI (decide (cnt (thB h) 4 ≠ 0))) := m_ap4 4 KF 0 (by omega) (by decide)
def qB (h : TT) (k : Nat) : Nat := st (qz (QF h k)) (gn (QF h k) 0)
def tmV (h : TT) (k : Nat) (x : Int32) : Int32 := if x = 2 then (QF h k 1 * nI (qB h k) + 1) / 2 else QF h k 1 * nI (qB h k)
theorem c_tm (x : PLX h k) (t : h.1 156 k = 1) (v : Int32) : f_X3_minutesBy h (25 + 4 * k) v = some (tmV h k v) := by
  obtain ⟨-, -, q2, q3, -⟩ := pl_there x t
  unfold f_X3_minutesBy tmV
  rw [q2, q3, nm_eq]
  by_cases e : v = 2
  · rw [if_pos e, if_pos e]; rfl
  · rw [if_neg e, if_neg e]; rfl
theorem m_tm (hQ : WQ (QF h k)) (hk : k < 4) (v : Int32) : f_X8_timeOf h (nI k) v = some (tmV h k v) := by
  unfold f_X8_timeOf tmV
  rw [k26, nI_1, if_pos (inb_nI (by omega) (by decide)), nI_clamp (by omega), m_pB hQ hk, Option.bind_some, nm_eq]
  by_cases e : v = 2
  · rw [if_pos e, if_pos e]; rfl
  · rw [if_neg e, if_neg e]; rfl
theorem m_stands (hs : StG g s) {sn k : Nat} (hsn : sn < 4) (hk : k < 4) {x : Int32} (hW : WF (PP g sn k x)) : ∃ s', f_X8_stands s (nI sn) (nI k) x = some (bI (stT (PP g sn k x)), s') ∧ StG g s' := by
  have l4 : ∃ f, lk4 s = setG (lk4 g) 608 f := by
    rcases hs with rfl | ⟨P', L', w', c', rfl⟩
    · exact ⟨_, setG_id.symm⟩
    · unfold MSt
      rw [lk4_G, lk44]
      exact ⟨_, rfl⟩
  obtain ⟨f, l4⟩ := l4
  have pe : PP (lk4 g) sn k x = PP g sn k x := PP_cg (lk4_r (by omega)) (lk4_r (by omega))
  have lh := m_layG (h := lk4 g) (b := 608) (g := f) lk4_ok hsn hk x
  rw [pe] at lh
  have bg : f_X8_begins (setG (lk4 g) 608 (fun j => if 0 ≤ j ∧ j < 31 then PP g sn k x j else f j)) = some (MSt (lk4 g) 608 (PP g sn k x) 0 w0 c0) := by
    rw [m_beginsG lk4_ok]
    exact congrArg some (MSt_cg (fun j hj => if_pos ⟨by omega, hj⟩) (fun _ _ => rfl) (fun _ _ => rfl))
  refine ⟨_, ?_, Or.inr ⟨PP g sn k x, aF (PP g sn k x), buW (PP g sn k x) (aF (PP g sn k x)), c0, rfl⟩⟩
  unfold f_X8_stands f_X8_builds
  rw [m_look4, Option.bind_some, l4, lh, Option.bind_some, bg, Option.bind_some, m_all lk4_ok hW, Option.bind_some, m_lays lk4_ok hW c0_CU (by omega), Option.bind_some, Nat.zero_add, m_many lk4_ok hW.a60, Option.bind_some, Option.bind_some]
  have fz : nI (cnt (fB (buW (PP g sn k x) (aF (PP g sn k x)))) (aF (PP g sn k x))) = 0 ↔ FN (PP g sn k x) (aF (PP g sn k x)) = 0 := nI_z (FN_lt hW)
  by_cases e : FN (PP g sn k x) (aF (PP g sn k x)) = 0
  · rw [stT_t e]
    exact if_pos (fz.mpr e)
  · rw [stT_f e]
    exact if_neg (fun z => e (fz.mp z))
end INV
