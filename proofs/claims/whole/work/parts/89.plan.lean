/-! ===== plan ===== -/
section RD
variable {h h' g s : TT} {t n p c q m e i j k : Nat} {v x y fo : Int32} {W A F S L Q Q' T V : Nat → Int32}
theorem WQ.cg (x : WQ Q) (e : ∀ j, j < 26 → Q' j = Q j) : WQ Q' := by
  obtain ⟨⟨g1, g2, g3, g4⟩, w1, w2, w3, w4⟩ := x
  have e0 : gn Q' 0 = gn Q 0 := by unfold gn; rw [e 0 (by omega)]
  have z : ∀ y, y < gn Q 0 → qz Q' y = qz Q y := fun y hy => by unfold qz gn; rw [e _ (by omega)]
  refine ⟨?_, ?_, ?_, ?_, ?_⟩
  · rw [e0]
    exact ⟨g1, g2, fun y hy => by rw [z y hy]; exact g3 y hy, by rw [st_cg z]; exact g4⟩
  · rw [e0, e 0 (by omega)]; exact w1
  · unfold gn; rw [e 1 (by omega)]; exact w2
  · unfold gn; rw [e 1 (by omega)]; exact w3
  · rw [e0]
    intro y hy
    rw [z y hy]
    unfold gn
    rw [e _ (by omega), e _ (by omega)]
    exact w4 y hy
theorem PLX.fr2 (x : PLX h k) (e1 : h'.1 (25 + 4 * k) = h.1 (25 + 4 * k)) (e2 : h'.1 (26 + 4 * k) = h.1 (26 + 4 * k)) (e3 : h'.1 (27 + 4 * k) = h.1 (27 + 4 * k)) (e4 : h'.1 (28 + 4 * k) = h.1 (28 + 4 * k)) (e5 : h'.1 156 k = h.1 156 k) (e6 : ∀ j, j < 26 → h'.1 157 (26 * k + j) = h.1 157 (26 * k + j)) : PLX h' k := by
  have q : ∀ j, j < 26 → QF h' k j = QF h k j := e6
  unfold PLX at x ⊢
  rw [e1, e2, e3, e4, e5]
  refine ⟨x.1, ?_⟩
  rcases x.2 with b | ⟨b1, b2, b3, b4, b5, b6⟩
  · exact Or.inl b
  · have g2 := b2.1.2.1
    have e0 : gn (QF h' k) 0 = gn (QF h k) 0 := by unfold gn; rw [q 0 (by omega)]
    refine Or.inr ⟨b1, b2.cg q, by rw [q 0 (by omega)]; exact b3, ?_, by rw [q 1 (by omega)]; exact b5, ?_⟩
    · rw [e0, b4, st_cg fun y hy => show qz (QF h k) y = qz (QF h' k) y by unfold qz gn; rw [q _ (by omega)]]
    · rw [e0]
      intro y hy
      rw [q _ (by omega), q _ (by omega), q _ (by omega)]
      exact b6 y hy
theorem inv_pl (hI : INV h) (hk : k < 4) (e : ∀ i j, ¬ (25 + 4 * k ≤ i ∧ i ≤ 28 + 4 * k) → ¬ (i = 156 ∧ j = k) → ¬ (i = 157 ∧ 26 * k ≤ j ∧ j < 26 * k + 26) → ¬ Scr i j → h'.1 i j = h.1 i j) (e2 : h'.2 = h.2) (s : PLX h' k) : INV h' := by
  obtain ⟨h1, h2, h3, h4, h5, h6⟩ := hI
  have er : ∀ i, ¬ (25 + 4 * k ≤ i ∧ i ≤ 28 + 4 * k) → i ≠ 156 → i ≠ 157 → (∀ j, ¬ Scr i j) → h'.1 i = h.1 i := fun i a b c d => funext fun j => e i j a (fun z => b z.1) (fun z => c z.1) (d j)
  have ns : ∀ i j, i < 110 → ¬ Scr i j := fun i j hi z => by unfold Scr at z; omega
  refine ⟨?_, ⟨?_, fun j hj => ?_⟩, by unfold R_frac; rw [e2]; exact h3, R_rows_fr h4 (fun i hi => er i (by omega) (by omega) (by omega) (fun k z => by unfold Scr at z; omega)), R_txt_fr h5 (fun i hi => er i (by omega) (by omega) (by omega) (fun k z => by unfold Scr at z; omega)), fun j hj => ?_, fun j hj => ?_, ?_, fun j hj => ?_⟩
  · unfold R_told
    rw [e 0 13 (by omega) (by omega) (by omega) (fun z => by unfold Scr at z; omega), e 147 2 (by omega) (by omega) (by omega) (fun z => by unfold Scr at z; omega)]
    exact h1
  · rw [e 0 16 (by omega) (by omega) (by omega) (fun z => by unfold Scr at z; omega), e 147 0 (by omega) (by omega) (by omega) (fun z => by unfold Scr at z; omega)]
    exact h2.1
  · rw [e 146 j (by omega) (by omega) (by omega) (fun z => by unfold Scr at z; omega), e 148 j (by omega) (by omega) (by omega) (fun z => by unfold Scr at z; omega)]
    exact h2.2 j hj
  · exact (h6.1 j hj).fr (er _ (by omega) (by omega) (by omega) (fun i => ns _ i (by omega))) (er _ (by omega) (by omega) (by omega) (fun i => ns _ i (by omega))) (e 154 j (by omega) (by omega) (by omega) (fun z => by unfold Scr at z; omega)) (fun i hi => e 155 _ (by omega) (by omega) (by omega) (fun z => by unfold Scr at z; omega))
  · by_cases ej : j = k
    · rw [ej]; exact s
    · exact (h6.2.1 j hj).fr2 (er _ (by omega) (by omega) (by omega) (fun i => ns _ i (by omega))) (er _ (by omega) (by omega) (by omega) (fun i => ns _ i (by omega))) (er _ (by omega) (by omega) (by omega) (fun i => ns _ i (by omega))) (er _ (by omega) (by omega) (by omega) (fun i => ns _ i (by omega))) (e 156 j (by omega) (by omega) (by omega) (fun z => by unfold Scr at z; omega)) (fun i hi => e 157 _ (by omega) (by omega) (by omega) (fun z => by unfold Scr at z; omega))
  · exact h6.2.2.1.fr (fun i hi => er _ (by omega) (by omega) (by omega) (fun i => ns _ i (by omega))) (e 160 0 (by omega) (by omega) (by omega) (fun z => by unfold Scr at z; omega)) (fun i hi => e 161 _ (by omega) (by omega) (by omega) (fun z => by unfold Scr at z; omega))
  · exact (h6.2.2.2 j hj).fr (fun i hi => er _ (by omega) (by omega) (by omega) (fun i => ns _ i (by omega))) (e 160 _ (by omega) (by omega) (by omega) (fun z => by unfold Scr at z; omega)) (fun i hi => e 161 _ (by omega) (by omega) (by omega) (fun z => by unfold Scr at z; omega))
/-- the class takes the plan -/
def tkB (s : TT) (o : Nat) : Nat → Nat → Int32 := cpB (cpB (cpB (upB (upB (upB (upB (RowsAt s o) 3 0 (s.1 130 0)) 3 1 (s.1 130 1)) 3 2 (s.1 130 2)) 3 3 (s.1 130 3)) 4 (s.1 131) 8) 5 (s.1 132) 8) 6 (s.1 133) 8
def tkP (s : TT) (k : Nat) : TT := setB s (22 + 4 * k) (tkB s (22 + 4 * k))
theorem c_tkP (hk : k < 4) (e : s.1 130 0 = 1) : f_X3_takeFrom s (25 + 4 * k) 130 = some (tkP s k) := by
  have q := c_take3 (h := s) (o := 22 + 4 * k) (B := RowsAt s (22 + 4 * k)) (o2 := 130) (by rw [e]; decide) (by omega) (by omega) (by omega) (by omega)
  rw [setB_id, show 22 + 4 * k + 3 = 25 + 4 * k by omega] at q
  exact q
theorem tkP_r {a : Nat} (e : ¬ (25 + 4 * k ≤ a ∧ a ≤ 28 + 4 * k)) : (tkP s k).1 a = s.1 a := by
  show (if 22 + 4 * k ≤ a ∧ a < 22 + 4 * k + 17 then tkB s (22 + 4 * k) (a - (22 + 4 * k)) else s.1 a) = s.1 a
  by_cases z : 22 + 4 * k ≤ a ∧ a < 22 + 4 * k + 17
  · rw [if_pos z]
    unfold tkB cpB
    rw [if_neg (by omega), if_neg (by omega), if_neg (by omega)]
    unfold upB
    rw [if_neg (by omega), if_neg (by omega), if_neg (by omega), if_neg (by omega)]
    unfold RowsAt
    rw [show 22 + 4 * k + (a - (22 + 4 * k)) = a by omega]
  · rw [if_neg z]
theorem tkP_0 (hj : j < 4) : (tkP s k).1 (25 + 4 * k) j = s.1 130 j := by
  unfold tkP
  rw [show 25 + 4 * k = 22 + 4 * k + 3 by omega, sb_r (by omega), show tkB s (22 + 4 * k) 3 = upd (upd (upd (upd (RowsAt s (22 + 4 * k) 3) 0 (s.1 130 0)) 1 (s.1 130 1)) 2 (s.1 130 2)) 3 (s.1 130 3) from rfl]
  rcases (show j = 0 ∨ j = 1 ∨ j = 2 ∨ j = 3 by omega) with rfl | rfl | rfl | rfl
  · rw [upd_cases, if_neg (by decide), upd_cases, if_neg (by decide), upd_cases, if_neg (by decide), upd_cases, if_pos rfl]
  · rw [upd_cases, if_neg (by decide), upd_cases, if_neg (by decide), upd_cases, if_pos rfl]
  · rw [upd_cases, if_neg (by decide), upd_cases, if_pos rfl]
  · rw [upd_cases, if_pos rfl]
theorem cpy8 {f f' : Nat → Int32} (hj : j < 8) : va_cpy f f' 0 0 8 j = f j := by
  unfold va_cpy
  rw [if_pos (by omega), show 0 + (j - 0) = j by omega]
theorem tkP_1 (hj : j < 8) : (tkP s k).1 (26 + 4 * k) j = s.1 131 j := by
  unfold tkP
  rw [show 26 + 4 * k = 22 + 4 * k + 4 by omega, sb_r (by omega), show tkB s (22 + 4 * k) 4 = va_cpy (s.1 131) (RowsAt s (22 + 4 * k) 4) 0 0 8 from rfl, cpy8 hj]
theorem tkP_2 (hj : j < 8) : (tkP s k).1 (27 + 4 * k) j = s.1 132 j := by
  unfold tkP
  rw [show 27 + 4 * k = 22 + 4 * k + 5 by omega, sb_r (by omega), show tkB s (22 + 4 * k) 5 = va_cpy (s.1 132) (RowsAt s (22 + 4 * k) 5) 0 0 8 from rfl, cpy8 hj]
theorem tkP_3 (hj : j < 8) : (tkP s k).1 (28 + 4 * k) j = s.1 133 j := by
  unfold tkP
  rw [show 28 + 4 * k = 22 + 4 * k + 6 by omega, sb_r (by omega), show tkB s (22 + 4 * k) 6 = va_cpy (s.1 133) (RowsAt s (22 + 4 * k) 6) 0 0 8 from rfl, cpy8 hj]
theorem m_pl46 (hk : k < 4) : ∀ (d f j : Nat) (u : TT), j + d = 26 → d < f → f_X8_plan_46 f (nI k) (nI j) u = some (u.1 147 17, wr (wrow u 157 (fun i => if 26 * k + j ≤ i ∧ i < 26 * k + 26 then u.1 159 (i - 26 * k) else u.1 157 i)) 156 k 1) := by
  intro d
  induction d with
  | zero =>
    intro f j u hj hf
    obtain ⟨f, rfl⟩ : ∃ g, f = g + 1 := ⟨f - 1, by omega⟩
    obtain rfl : j = 26 := by omega
    rw [f_X8_plan_46, if_pos (show (26 : Int32) ≤ nI 26 by decide), if_pos (inb_nI hk (by decide)), nI_clamp (by omega), nm_eq, show vp_nar .boolean (1 : Int32) = 1 by decide, wr_row (by omega)]
    congr 3
    refine Prod.ext (funext fun b => funext fun j => ?_) rfl
    rw [wrow_1]
    by_cases e : b = 157
    · subst e
      rw [if_pos rfl, if_neg (by omega)]
    · rw [if_neg e]
  | succ d ih =>
    intro f j u hj hf
    obtain ⟨f, rfl⟩ : ∃ g, f = g + 1 := ⟨f - 1, by omega⟩
    rw [f_X8_plan_46, if_neg (show ¬ (26 : Int32) ≤ nI j from nI_ge (b := 26) (by omega) (by omega)), if_pos (inb_nI (by omega) (by decide)), show (26 : Int32) * nI k + nI j = nI (26 * k + j) by rw [show (26 : Int32) = nI 26 from rfl, pk_mul, nI_add], if_pos (inb_nI (by omega) (by decide)), nI_clamp (by omega), nI_clamp (by omega), nm_eq, nI_1, ih f (j + 1) _ (by omega) (by omega), wr_row (show 147 ≠ 157 by omega), wr_row (show 159 ≠ 157 by omega)]
    congr 3
    refine Prod.ext (funext fun b => funext fun i => ?_) rfl
    rw [wrow_1, wrow_1]
    by_cases e : b = 157
    · subst e
      rw [if_pos rfl, if_pos rfl, wr_1]
      by_cases e1 : 26 * k + (j + 1) ≤ i ∧ i < 26 * k + 26
      · rw [if_pos e1, if_pos (by omega)]
      · rw [if_neg e1]
        by_cases e2 : i = 26 * k + j
        · rw [if_pos ⟨rfl, e2⟩, if_pos (by omega), show i - 26 * k = j by omega]
        · rw [if_neg (fun q => e2 q.2), if_neg (by omega)]
    · rw [if_neg e, if_neg e, wr_1, if_neg (fun q => e q.1)]
theorem st_plan : ST_plan INV := by
  intro h hI x1 x2
  rcases place x1 4 (by decide) with ⟨k, hk, rfl⟩ | hb
  · rcases place x2 4 (by decide) with ⟨t, ht, rfl⟩ | hb
    · have cc : f_X7_plan h (nI k) (nI t) = (if 0 ≤ h.1 14 t then (f_X4_readPlan h (10 + t) 80 (h.1 14 t)).bind fun q9 => (if q9.1 = (-9 : Int32) then (f_X3_takeFrom q9.2 (25 + 4 * k) 130).bind fun h12 => some (h12.1 (25 + 4 * k) 2, h12) else some ((-4 : Int32), q9.2)) else (f_X7_found h (1 : Int32)).bind fun q13 => some (q13.1, q13.2)) := by
        unfold f_X7_plan
        rw [f_below, Option.bind_some, if_pos (lt4 hk).1, if_neg n1_0, f_below, Option.bind_some, if_pos (lt4 ht).1, if_neg n1_0, nI_clamp (show t < 2 ^ 31 by omega), nI_clamp (show k < 2 ^ 31 by omega)]
        simp only [inb_nI ht (show 4 < 2 ^ 31 by decide), inb_nI hk (show 4 < 2 ^ 31 by decide), if_true]
      have mm : ∀ g : TT, f_X8_plan g (nI k) (nI t) = (if 0 ≤ g.1 152 t then (f_X8_planFault g (nI t)).bind fun q7 => (if q7.1 = (-9 : Int32) then f_X8_plan_46 KF (nI k) (0 : Int32) q7.2 else some ((-4 : Int32), q7.2)) else (f_X8_meets g (1 : Int32)).bind fun q15 => some (q15.1, q15.2)) := fun g => by
        unfold f_X8_plan
        rw [f_isPlace, Option.bind_some, if_pos (lt4 hk).2, if_neg n1_0, f_isText, Option.bind_some, if_pos (lt4 ht).2, if_neg n1_0, nI_clamp (show t < 2 ^ 31 by omega)]
        simp only [inb_nI ht (show 4 < 2 ^ 31 by decide), if_true]
      rcases tcase hI.2.2.2.2.1 ht with ⟨b1, b2⟩ | ⟨n, hn, b1, b2⟩
      · refine ⟨-3, hFind h 1, hMeet (hFind h 1) 1, ?_, ?_, inv_find XX_fr.frx hI (by decide)⟩
        · rw [cc, b1, if_neg (by decide)]
          exact fm_find h (by decide) rfl
        · rw [mm, hFind_r (by omega) (by omega), b2, if_neg (by decide)]
          exact fm_meet _ (by decide) rfl
      · obtain ⟨r, s, p, m, q, v, A, F, S, L, Q, es, R, hm, e1, v', c, W, e2⟩ := b_plan hI ht hn b1 (fun r s => if r = -9 then tkP s k else s) (fun r s => by
          by_cases z : r = -9
          · simp only [if_pos z]
            exact ⟨tkP_r (by omega), tkP_r (by omega)⟩
          · simp only [if_neg z]
            exact ⟨trivial, trivial⟩) (fun r s => by
          by_cases z : r = -9
          · simp only [if_pos z]
            exact tkP_r (by omega)
          · simp only [if_neg z])
        obtain ⟨r1, r2, r3, r4, r5, r6, r7, ⟨u, r8, r81⟩, r9', r10⟩ := R
        have ns : NS h s := by rw [es]; exact ns_cs
        have sA : s.1 130 = A := by rw [es]; rfl
        have sF : s.1 131 = F := by rw [es]; rfl
        have sS : s.1 132 = S := by rw [es]; rfl
        have sL : s.1 133 = L := by rw [es]; rfl
        have s152 : s.1 152 t = nI n := by rw [ns.1 152 t (fun z => by unfold Scr at z; omega), b2]
        by_cases r9 : r = -9
        · have m0 := hm r9
          simp only [if_pos r9] at e2
          refine ⟨nI q, tkP s k, wr (wrow (MZ (tkP s k) p v' c q W Q) 157 (fun i => if 26 * k + 0 ≤ i ∧ i < 26 * k + 26 then Q (i - 26 * k) else (MZ (tkP s k) p v' c q W Q).1 157 i)) 156 k 1, ?_, ?_, ?_⟩
          · rw [cc, b1, if_pos (nI_pos' (by omega)), e1, Option.bind_some, if_pos r9, c_tkP hk (by rw [sA]; exact r1), Option.bind_some, tkP_0 (by omega), sA, r4]
          · rw [mm, tkP_r (by omega), s152, if_pos (nI_pos' (by omega)), e2, Option.bind_some, if_pos r9, show (0 : Int32) = nI 0 from rfl, m_pl46 hk 26 KF 0 _ (by omega) (by decide)]
            rfl
          · generalize hu : MZ (tkP s k) p v' c q W Q = u'
            have nu : ∀ i j, ¬ (25 + 4 * k ≤ i ∧ i ≤ 28 + 4 * k) → ¬ Scr i j → u'.1 i j = h.1 i j := fun i j a d => by rw [← hu, ns_mz.1 i j d, tkP_r a, ns.1 i j d]
            refine inv_pl hI hk (fun i j a b d z => ?_) (by rw [wr_2, wrow_2, ← hu]; exact ns.2) ?_
            · rw [wr_1, if_neg b, wrow_1]
              by_cases z5 : i = 157
              · rw [if_pos z5, if_neg (by omega)]
                rw [← z5]
                exact nu i j a z
              · rw [if_neg z5]
                exact nu i j a z
            · generalize hf : wr (wrow u' 157 (fun i => if 26 * k + 0 ≤ i ∧ i < 26 * k + 26 then Q (i - 26 * k) else u'.1 157 i)) 156 k 1 = f
              have fr : ∀ a, 25 + 4 * k ≤ a ∧ a ≤ 28 + 4 * k → f.1 a = (tkP s k).1 a := fun a ha => by rw [← hf, wr_row (by omega), wrow_row (by omega), ← hu, ms_row (by omega) (by omega) (by omega)]
              have qf : ∀ j, j < 26 → QF f k j = Q j := fun j hj => by
                unfold QF
                rw [← hf, wr_row (by omega), wrow_1, if_pos rfl, if_pos (by omega), show 26 * k + j - 26 * k = j by omega]
              have f156 : f.1 156 k = 1 := by rw [← hf, wr_1, if_pos ⟨rfl, rfl⟩]
              have gm : gn Q 0 = m := by unfold gn; rw [r7, nI_clamp (by omega)]
              have gm' : gn (QF f k) 0 = m := by unfold gn; rw [qf 0 (by omega), r7, nI_clamp (by omega)]
              have wq : WQ Q := by
                refine ⟨?_, by rw [gm]; exact r7, ?_, ?_, ?_⟩
                · rw [gm]
                  exact ⟨by omega, r3, fun y hy => ⟨(r10 y hy).2.2.2.2.1, (r10 y hy).2.2.2.2.2.1⟩, by rw [← r9']; exact r5⟩
                · unfold gn; rw [r81, nI_clamp (by omega)]
                · unfold gn; rw [r81, nI_clamp (by omega)]; exact r8
                · rw [gm]
                  intro y hy
                  exact ⟨(r10 y hy).2.2.2.1, (r10 y hy).2.2.2.2.2.2⟩
              unfold PLX
              rw [f156, fr _ (by omega), fr _ (by omega), fr _ (by omega), fr _ (by omega), gm', tkP_0 (by omega), tkP_0 (by omega), tkP_0 (by omega), tkP_0 (by omega), sA, r1, r2, r4, r6, qf 0 (by omega), qf 1 (by omega), r7]
              refine ⟨rfl, Or.inr ⟨rfl, wq.cg qf, rfl, ?_, rfl, fun y hy => ?_⟩⟩
              · rw [r9', st_cg fun y hy => show qz Q y = qz (QF f k) y by unfold qz gn; rw [qf _ (by omega)]]
              · rw [tkP_1 (by omega), tkP_2 (by omega), tkP_3 (by omega), sF, sS, sL, qf _ (by omega), qf _ (by omega), qf _ (by omega)]
                exact ⟨(r10 y hy).1, (r10 y hy).2.1, (r10 y hy).2.2.1⟩
        · simp only [if_neg r9] at e2
          refine ⟨-4, s, MZ s p v' c q W Q, ?_, ?_, inv_ns hI (ns.tr ns_mz)⟩
          · rw [cc, b1, if_pos (nI_pos' (by omega)), e1, Option.bind_some, if_neg r9]
          · rw [mm, s152, if_pos (nI_pos' (by omega)), e2, Option.bind_some, if_neg r9]
    · refine ⟨-1, h, h, ?_, ?_, hI⟩
      · unfold f_X7_plan
        rw [f_below, Option.bind_some, if_pos (lt4 hk).1, if_neg n1_0, f_below, Option.bind_some, if_neg (not_lt4 hb).1, if_pos rfl]
      · unfold f_X8_plan
        rw [f_isPlace, Option.bind_some, if_pos (lt4 hk).2, if_neg n1_0, f_isText, Option.bind_some, if_neg (not_lt4 hb).2, if_pos rfl]
  · refine ⟨-1, h, h, ?_, ?_, hI⟩
    · unfold f_X7_plan
      rw [f_below, Option.bind_some, if_neg (not_lt4 hb).1, if_pos rfl]
    · unfold f_X8_plan
      rw [f_isPlace, Option.bind_some, if_neg (not_lt4 hb).2, if_pos rfl]
end RD
