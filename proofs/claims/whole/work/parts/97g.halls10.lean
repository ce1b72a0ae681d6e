/-! ===== halls: the step ===== -/
theorem st_halls : ST_halls INV := by
  intro h hI x1 x2 x3
  have x := hI.2.2.2.2.2
  rcases place x1 4 (by decide) with ⟨sn, hsn, rfl⟩ | hb
  · by_cases hx2 : 1 ≤ x2 ∧ x2 ≤ 40
    · rcases place x3 6 (by decide) with ⟨r, hr, rfl⟩ | hb
      · obtain ⟨G, hG1, hG, rfl⟩ : ∃ G, 1 ≤ G ∧ G ≤ 40 ∧ x2 = nI G := by
          have l1 := i32_le.mp hx2.1
          have l2 := i32_le.mp hx2.2
          rw [show (1 : Int32).toInt = 1 from rfl] at l1
          rw [show (40 : Int32).toInt = 40 from rfl] at l2
          rcases place x2 41 (by decide) with ⟨G, hG, rfl⟩ | hn
          · rw [nI_toInt (by omega)] at l1
            exact ⟨G, by omega, by omega, rfl⟩
          · refine absurd ⟨?_, ?_⟩ hn
            · rw [i32_le, show (0 : Int32).toInt = 0 from rfl]; omega
            · rw [i32_lt, nI_toInt (by decide)]; omega
        have cc : f_X7_halls h (nI sn) (nI G) (nI r) = (if (h.1 (16 + 2 * sn) 0) = 0 then f_X7_halls_49 h else (f_X7_plansThere h).bind fun r10 => (if r10 = 0 then f_X7_halls_49 h else (f_X1_clear h).bind fun h12 => f_X7_halls_65 KF (nI sn) (nI G) (nI r) (3 : Int32) h12)) := by
          unfold f_X7_halls
          rw [f_below, Option.bind_some, if_pos (lt4 hsn).1, if_neg n1_0, if_neg (show ¬ nI G < 1 from nI_nlt (b := 1) hG1 (by omega)), if_neg (show ¬ (40 : Int32) < nI G from nI_nlt (a := 40) hG (by omega)), f_below, Option.bind_some, if_pos (lt6 hr).1, if_neg n1_0, if_pos (inb_nI hsn (by decide)), nI_clamp (by omega)]
        have mm : ∀ g : TT, f_X8_halls g (nI sn) (nI G) (nI r) = (if (g.1 154 sn) = 0 then f_X8_halls_42 g else (f_X8_isAnyPlan g).bind fun r10 => (if r10 = 0 then f_X8_halls_42 g else f_X8_halls_51 KF (nI sn) (nI G) (nI r) (0 : Int32) g)) := fun g => by
          unfold f_X8_halls
          rw [f_isPlace, Option.bind_some, if_pos (lt4 hsn).2, if_neg n1_0, f_in, Option.bind_some, if_pos hx2, if_neg n1_0, f_isRow, Option.bind_some, if_pos (lt6 hr).2, if_neg n1_0, if_pos (inb_nI hsn (by decide)), nI_clamp (by omega)]
        rcases sn_cs (x.1 sn hsn) with ⟨p1, p2⟩ | ⟨p1, p2⟩
        · refine ⟨-3, hFind h 1, hMeet (hFind h 1) 1, ?_, ?_, inv_find XX_fr.frx hI (by decide)⟩
          · rw [cc, if_pos p1]
            exact fm_find h (by decide) rfl
          · rw [mm, hFind_r (by omega) (by omega), if_pos p2]
            exact fm_meet _ (by decide) rfl
        · have c4 := cnt_le (thB h) 4
          by_cases e0 : cnt (thB h) 4 = 0
          · refine ⟨-3, hFind h 1, hMeet (hFind h 1) 1, ?_, ?_, inv_find XX_fr.frx hI (by decide)⟩
            · rw [cc, if_neg (by rw [p1]; decide), c_pt x.2.1, Option.bind_some, if_pos (by rw [e0]; rfl)]
              exact fm_find h (by decide) rfl
            · have t0 : thB (hFind h 1) = thB h := by funext k; unfold thB; rw [hFind_r (by omega) (by omega)]
              rw [mm, hFind_r (by omega) (by omega), if_neg (by rw [p2]; decide), m_ap, Option.bind_some, t0, if_pos (bI_f (decide_eq_false (fun z => z e0)))]
              exact fm_meet _ (by decide) rfl
          · rw [if_neg (by rw [p1]; decide), c_pt x.2.1, Option.bind_some, if_neg (fun z => e0 ((nI_z (by omega)).mp z)), c_clF, Option.bind_some] at cc
            obtain ⟨s, a1, a2, a3, a4⟩ := c_h65 (x2 := nI G) (x3 := nI r) x hsn p2 4 (995 + 1) (clF h) (by omega) (((Sc0.rf h).ww (fun k => by unfold Scr; omega)).w (by unfold Scr; omega)) (fun i g h1 h2 h3 => by
              obtain rfl : i = 4 := by omega
              rw [show 140 + 4 = 144 from rfl, clF_g h3]
              rfl) (fun i h1 h2 => by omega)
            rw [show (nI 4 + -1 : Int32) = 3 by decide, show 995 + 1 + 4 = KF from rfl] at a4
            have tl := fwT_le (e := eH h sn) (b := bH h) 4 G
            rw [a4, f_X7_halls_65, if_pos (show (-1 : Int32) < 0 by decide), c_least hG tl (a2 0 G (by omega) hG), Option.bind_some] at cc
            obtain ⟨c, i1, i2⟩ := r_share hr hG (eH_le (sn := sn) x.2.1) (bH_le x.2.1) 4 0 G (by omega) (Nat.le_refl _)
            have mg : ∀ g : TT, g.1 154 = h.1 154 → g.1 155 = h.1 155 → g.1 156 = h.1 156 → g.1 157 = h.1 157 → ∃ s', Sc0 g s' ∧ f_X8_halls g (nI sn) (nI G) (nI r) = (if fwT (eH h sn) (bH h) 4 G < 1000000 then some (nI (fwT (eH h sn) (bH h) 4 G), wrow (wr s' 149 r 4) 150 (fun j => if 60 * r ≤ j ∧ j < 60 * r + 60 then (if j < 60 * r + 4 then c (j - 60 * r) else 0) else s'.1 150 j)) else some (-9, s')) := fun g r4 r5 r6 r7 => by
              obtain ⟨s', b1, b2, b3, b4⟩ := m_hall (r := r) x r5 r6 r7 hsn p2 hG hr
              refine ⟨s', b1, ?_⟩
              have t0 : thB g = thB h := by funext k; unfold thB; rw [r6]
              rw [mm, r4, if_neg (by rw [p2]; decide), m_ap, Option.bind_some, t0, if_neg (bI_t (decide_eq_true e0)), b4]
              by_cases z : fwT (eH h sn) (bH h) 4 G < 1000000
              · rw [if_pos z, if_pos z, m_292 hr 60 KF 0 _ (by omega) (by decide)]
                have q := i2 KF (wrow (wr s' 149 r 4) 150 (fun j => if 60 * r + 0 ≤ j ∧ j < 60 * r + 60 then 0 else (wr s' 149 r 4).1 150 j)) (nI (fwT (eH h sn) (bH h) 4 G)) (by decide) (fun j y hj hy => by
                  rw [wrow_row (by omega), wr_row (by omega)]
                  exact b2 j y hj hy) (fun j h1 h2 => by
                  rw [wrow_1, if_pos rfl, if_pos (by omega)]
                  rfl) (fun j hj he t ht => b3 j hj he t (by rw [ht, wrow_row (by omega), wr_row (by omega)]))
                rw [show nI 0 = (0 : Int32) from rfl, show 4 - 0 = 4 from rfl] at q
                refine q.trans ?_
                congr 2
                refine Prod.ext (funext fun a => funext fun j => ?_) rfl
                by_cases y : a = 150
                · subst y
                  simp only [wrow_1, ↓reduceIte]
                  (repeat' split) <;> first | (exfalso; omega) | rfl | rw [wr_row (by omega)]
                · simp only [wrow_1, if_neg y]
              · rw [if_neg z, if_neg z]
            by_cases z : fwT (eH h sn) (bH h) 4 G < 1000000
            · rw [if_pos z, if_neg (nI_m9 (by omega)), if_pos (inb_nI hr (by decide)), nI_clamp (by omega), fill_0 (by decide), Option.bind_some, if_pos (inb_nI hr (by decide)), nm_eq, if_pos (inb_nI hr (by decide))] at cc
              have sh : f_X1_share (wr (wrow s (2 + r) (fun j => if j < 60 then 0 else s.1 (2 + r) j)) 8 r 4) (nI G) (2 + r) 60 = some (wrow (wr s 8 r 4) (2 + r) (fun j => if j < 60 then (if j < 4 then c j else 0) else s.1 (2 + r) j)) := by
                unfold f_X1_share
                rw [show (40 : Int32) = nI 40 from rfl, imin_nI (by omega) (by omega), nm_eq, Nat.min_eq_left hG]
                have q := i1 KF (wr (wrow s (2 + r) (fun j => if j < 60 then 0 else s.1 (2 + r) j)) 8 r 4) (by decide) (fun j y hj hy => by
                  rw [wr_row (by omega), wrow_row (by omega)]
                  exact a2 j y hj hy) (fun j hj => by
                  rw [wr_row (by omega), wrow_row (by omega)]
                  exact a3 j hj)
                rw [show nI 0 = (0 : Int32) from rfl] at q
                refine q.trans ?_
                congr 1
                refine Prod.ext (funext fun a => funext fun j => ?_) rfl
                by_cases y : a = 2 + r
                · subst y
                  rw [wrow_1, if_pos rfl, wrow_1, if_pos rfl, wr_row (show 2 + r ≠ 8 by omega), wrow_1, if_pos rfl]
                  (repeat' split) <;> first | (exfalso; omega) | rfl
                · rw [wrow_row y, wrow_row y, wr_1, wr_1, wrow_row y]
              rw [sh, Option.bind_some] at cc
              have fr : ∀ i, i ≠ 2 + r → i ≠ 8 → (wrow (wr s 8 r 4) (2 + r) (fun j => if j < 60 then (if j < 4 then c j else 0) else s.1 (2 + r) j)).1 i = s.1 i := fun i e1 e2 => by rw [wrow_row e1, wr_row e2]
              have rr : ∀ i, 154 ≤ i → i ≤ 157 → (wrow (wr s 8 r 4) (2 + r) (fun j => if j < 60 then (if j < 4 then c j else 0) else s.1 (2 + r) j)).1 i = h.1 i := fun i l1 l2 => by
                rw [fr i (by omega) (by omega)]
                exact a1.row (fun j q => by unfold Scr at q; omega)
              obtain ⟨s', b1, b2⟩ := mg _ (rr 154 (by omega) (by omega)) (rr 155 (by omega) (by omega)) (rr 156 (by omega) (by omega)) (rr 157 (by omega) (by omega))
              rw [if_pos z] at b2
              refine ⟨_, _, _, cc, b2, inv_hl hI hr (b1.2.trans a1.2) (fun i j q e1 e2 e3 e4 => ?_) ?_ ?_ (fun j hj => ?_)⟩
              · rw [wrow_1]
                by_cases y : i = 150
                · subst y
                  rw [if_pos rfl, if_neg (fun w => e4 ⟨rfl, w⟩), b1.1 150 j q, fr 150 e1 (by omega)]
                  exact a1.1 150 j q
                · rw [if_neg y, wr_1, if_neg e3, b1.1 i j q, wrow_row e1, wr_1, if_neg e2]
                  exact a1.1 i j q
              · rw [wrow_row (by omega), wr_row (by omega), b1.1 8 r (fun q => by unfold Scr at q; omega), wrow_row (by omega), wr_1, if_pos ⟨rfl, rfl⟩]
                rfl
              · rw [wrow_row (by omega), wr_1, if_pos ⟨rfl, rfl⟩]
                rfl
              · rw [wrow_row (show 2 + r ≠ 150 by omega), wr_row (by omega), b1.1 (2 + r) j (fun q => by unfold Scr at q; omega), wrow_1, if_pos rfl, if_pos hj, wrow_1, if_pos rfl, if_pos (show 60 * r ≤ 60 * r + j ∧ 60 * r + j < 60 * r + 60 by omega), show 60 * r + j - 60 * r = j by omega]
                by_cases y : j < 4
                · rw [if_pos y, if_pos (by omega)]
                · rw [if_neg y, if_neg (by omega)]
            · rw [if_neg z, if_pos rfl] at cc
              obtain ⟨s', b1, b2⟩ := mg s (a1.row (fun j q => by unfold Scr at q; omega)) (a1.row (fun j q => by unfold Scr at q; omega)) (a1.row (fun j q => by unfold Scr at q; omega)) (a1.row (fun j q => by unfold Scr at q; omega))
              rw [if_neg z] at b2
              refine ⟨_, _, _, cc, b2, inv_gen XX_fr hI ⟨fun i k q _ _ => (b1.1 i k q).trans (a1.1 i k q), fun i k _ => by rw [b1.2, a1.2]⟩ ?_⟩
              have o1 : ¬ Scr 0 13 := fun q => by unfold Scr at q; omega
              have o2 : ¬ Scr 147 2 := fun q => by unfold Scr at q; omega
              rw [b1.1 0 13 o1, a1.1 0 13 o1, b1.1 147 2 o2, a1.1 147 2 o2]
              exact hI.1
      · refine ⟨-1, h, h, ?_, ?_, hI⟩
        · unfold f_X7_halls
          rw [f_below, Option.bind_some, if_pos (lt4 hsn).1, if_neg n1_0, if_neg (fun q => by have a := i32_lt.mp q; have b := i32_le.mp hx2.1; omega), if_neg (fun q => by have a := i32_lt.mp q; have b := i32_le.mp hx2.2; omega), f_below, Option.bind_some, if_neg (not_lt6 hb).1]; rfl
        · unfold f_X8_halls
          rw [f_isPlace, Option.bind_some, if_pos (lt4 hsn).2, if_neg n1_0, f_in, Option.bind_some, if_pos hx2, if_neg n1_0, f_isRow, Option.bind_some, if_neg (not_lt6 hb).2]; rfl
    · refine ⟨-1, h, h, ?_, ?_, hI⟩
      · unfold f_X7_halls
        rw [f_below, Option.bind_some, if_pos (lt4 hsn).1, if_neg n1_0]
        by_cases z : x2 < 1
        · rw [if_pos z]
        · rw [if_neg z, if_pos (by rw [i32_lt]; rw [i32_lt] at z; rw [i32_le, i32_le] at hx2; omega)]
      · unfold f_X8_halls
        rw [f_isPlace, Option.bind_some, if_pos (lt4 hsn).2, if_neg n1_0, f_in, Option.bind_some, if_neg hx2]; rfl
  · refine ⟨-1, h, h, ?_, ?_, hI⟩
    · unfold f_X7_halls
      rw [f_below, Option.bind_some, if_neg (not_lt4 hb).1]; rfl
    · unfold f_X8_halls
      rw [f_isPlace, Option.bind_some, if_neg (not_lt4 hb).2]; rfl
