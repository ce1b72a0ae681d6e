section INV
variable {h h' g s s1 s2 : TT} {f : Nat → Int32} {br out lamp people hole low v : Int32}
theorem lt65 {x : Int32} : (0 ≤ x ∧ x ≤ 5) ↔ (0 ≤ x ∧ x < 6) := le_pred (n := 6) (Or.inl (by decide))
theorem st_layer : ST_layer INV := by
  intro h hI x1 x2 x3 x4 x5 x6
  have x := hI.2.2.2.2.2
  rcases place x1 4 (by decide) with ⟨k, hk, rfl⟩ | hb
  · by_cases c2 : 0 ≤ x2 ∧ x2 ≤ 9
    · by_cases c3 : 0 ≤ x3 ∧ x3 ≤ 9
      · by_cases c4 : 0 ≤ x4 ∧ x4 ≤ 9
        · by_cases c5 : 0 ≤ x5 ∧ x5 ≤ 48
          · by_cases c6 : 0 ≤ x6 ∧ x6 < 6
            · obtain ⟨N, hN, rfl⟩ := nI_of2 (M := 48) (n := 48) rfl (le_nlt c5.1) c5.2
              obtain ⟨ly, hly, rfl⟩ := nI_of2 (M := 5) (n := 5) rfl (le_nlt c6.1) (lt65.mpr c6).2
              have cc : f_X7_layer h (nI k) x2 x3 x4 (nI N) (nI ly) = (if (h.1 (16 + 2 * k) 0) = 0 then (f_X7_found h (1 : Int32)).bind fun q15 => some (q15.1, q15.2) else (f_X2_enter h (h.1 (17 + 2 * k) 2) x2 x3 x4 (1 : Int32)).bind fun h18 => f_X7_layer_104 KF (nI N) (nI ly) (0 : Int32) h18) := by
                unfold f_X7_layer
                rw [f_below, Option.bind_some, if_pos (lt4 hk).1, if_neg n1_0, f_upto, Option.bind_some, if_pos c2, if_neg n1_0, f_upto, Option.bind_some, if_pos c3, if_neg n1_0, f_upto, Option.bind_some, if_pos c4, if_neg n1_0, f_upto, Option.bind_some, if_pos c5, if_neg n1_0, f_below, Option.bind_some, if_pos c6, if_neg n1_0, if_pos (inb_nI hk (by decide)), nI_clamp (by omega), if_pos (inb_nI hk (by decide)), if_pos (show inb 2 4 = true by decide), tn2, show 16 + 2 * k + 1 = 17 + 2 * k by omega]
              have mm : ∀ g : TT, f_X8_layer g (nI k) x2 x3 x4 (nI N) (nI ly) = (if (g.1 154 k) = 0 then (f_X8_meets g (1 : Int32)).bind fun q15 => some (q15.1, q15.2) else (f_X8_hours g (nI k) x2 x3 x4 (1 : Int32) (nI N)).bind fun h16 => if inb (nI ly) 6 = true then (f_X8_tellsBy h16 (h16.1 164 (nI ly).toNatClampNeg) (1 : Int32)).bind fun q18 => some (q18.1, q18.2) else none) := fun g => by
                unfold f_X8_layer
                rw [f_isPlace, Option.bind_some, if_pos (lt4 hk).2, if_neg n1_0, f_isMany, Option.bind_some, if_pos c2, if_neg n1_0, f_isMany, Option.bind_some, if_pos c3, if_neg n1_0, f_isMany, Option.bind_some, if_pos c4, if_neg n1_0, f_in, Option.bind_some, if_pos c5, if_neg n1_0, f_in, Option.bind_some, if_pos (lt65.mpr c6), if_neg n1_0, if_pos (inb_nI hk (by decide)), nI_clamp (by omega)]
              rcases sn_cs (x.1 k hk) with ⟨p1, p2⟩ | ⟨p1, p2⟩
              · refine ⟨-3, hFind h 1, hMeet (hFind h 1) 1, ?_, ?_, inv_find XX_fr.frx hI (by decide)⟩
                · rw [cc, if_pos p1]
                  exact fm_find h (by decide) rfl
                · rw [mm, hFind_r (by omega) (by omega), if_pos p2]
                  exact fm_meet _ (by decide) rfl
              · have co := sn_cold (x.1 k hk) p2
                obtain ⟨f', b', -, q1, q3⟩ := airL (-10 * h.1 155 (4 * k + 2)) x2 x3 x4 1 hN N KF 0 (fun _ => -10 * h.1 155 (4 * k + 2)) 100 (by omega) (by have := KF_ge; omega)
                have e0 := q1 (ent h (-10 * h.1 155 (4 * k + 2)) x2 x3 x4 1) ent_PC ly (by omega)
                have sq : ScQ h (CI (ent h (-10 * h.1 155 (4 * k + 2)) x2 x3 x4 1) f' b') := scq_ent.tr scq_CI
                generalize hs1 : CI (ent h (-10 * h.1 155 (4 * k + 2)) x2 x3 x4 1) f' b' = s1 at e0 sq
                have r4 : (wr s1 0 13 (f' ly)).1 154 k = 1 := by rw [wr_row (by omega), sq.1 154 k (fun z => by unfold Scr at z; omega)]; exact p2
                have r5 : (wr s1 0 13 (f' ly)).1 155 (4 * k + 2) = h.1 155 (4 * k + 2) := by rw [wr_row (by omega), sq.1 155 _ (fun z => by unfold Scr at z; omega)]
                have e1 := q3 (wr s1 0 13 (f' ly)) k hk (by rw [r5])
                refine ⟨1, wr s1 0 13 (f' ly), wr (MI (wr s1 0 13 (f' ly)) f' b') 147 2 (f' ly), ?_, ?_, inv_Q hI sq scq_MI⟩
                · rw [cc, if_neg (by rw [p1]; decide), co, c_enter h _ _ _ _ _ (by decide), Option.bind_some, show (0 : Int32) = nI 0 from rfl]
                  exact e0
                · rw [mm, if_neg (by rw [r4]; decide)]
                  unfold f_X8_hours
                  rw [m_begin hk, Option.bind_some, r5, show (0 : Int32) = nI 0 from rfl, e1, Option.bind_some, if_pos (inb_nI (by omega) (by decide)), nI_clamp (by omega), mi_6 (by omega)]
                  rfl
            · refine ⟨-1, h, h, ?_, ?_, hI⟩
              · unfold f_X7_layer
                rw [f_below, Option.bind_some, if_pos (lt4 hk).1, if_neg n1_0, f_upto, Option.bind_some, if_pos c2, if_neg n1_0, f_upto, Option.bind_some, if_pos c3, if_neg n1_0, f_upto, Option.bind_some, if_pos c4, if_neg n1_0, f_upto, Option.bind_some, if_pos c5, if_neg n1_0, f_below, Option.bind_some, if_neg c6]; rfl
              · unfold f_X8_layer
                rw [f_isPlace, Option.bind_some, if_pos (lt4 hk).2, if_neg n1_0, f_isMany, Option.bind_some, if_pos c2, if_neg n1_0, f_isMany, Option.bind_some, if_pos c3, if_neg n1_0, f_isMany, Option.bind_some, if_pos c4, if_neg n1_0, f_in, Option.bind_some, if_pos c5, if_neg n1_0, f_in, Option.bind_some, if_neg (fun z => c6 (lt65.mp z))]; rfl
          · refine ⟨-1, h, h, ?_, ?_, hI⟩
            · unfold f_X7_layer
              rw [f_below, Option.bind_some, if_pos (lt4 hk).1, if_neg n1_0, f_upto, Option.bind_some, if_pos c2, if_neg n1_0, f_upto, Option.bind_some, if_pos c3, if_neg n1_0, f_upto, Option.bind_some, if_pos c4, if_neg n1_0, f_upto, Option.bind_some, if_neg c5]; rfl
            · unfold f_X8_layer
              rw [f_isPlace, Option.bind_some, if_pos (lt4 hk).2, if_neg n1_0, f_isMany, Option.bind_some, if_pos c2, if_neg n1_0, f_isMany, Option.bind_some, if_pos c3, if_neg n1_0, f_isMany, Option.bind_some, if_pos c4, if_neg n1_0, f_in, Option.bind_some, if_neg c5]; rfl
        · refine ⟨-1, h, h, ?_, ?_, hI⟩
          · unfold f_X7_layer
            rw [f_below, Option.bind_some, if_pos (lt4 hk).1, if_neg n1_0, f_upto, Option.bind_some, if_pos c2, if_neg n1_0, f_upto, Option.bind_some, if_pos c3, if_neg n1_0, f_upto, Option.bind_some, if_neg c4]; rfl
          · unfold f_X8_layer
            rw [f_isPlace, Option.bind_some, if_pos (lt4 hk).2, if_neg n1_0, f_isMany, Option.bind_some, if_pos c2, if_neg n1_0, f_isMany, Option.bind_some, if_pos c3, if_neg n1_0, f_isMany, Option.bind_some, if_neg c4]; rfl
      · refine ⟨-1, h, h, ?_, ?_, hI⟩
        · unfold f_X7_layer
          rw [f_below, Option.bind_some, if_pos (lt4 hk).1, if_neg n1_0, f_upto, Option.bind_some, if_pos c2, if_neg n1_0, f_upto, Option.bind_some, if_neg c3]; rfl
        · unfold f_X8_layer
          rw [f_isPlace, Option.bind_some, if_pos (lt4 hk).2, if_neg n1_0, f_isMany, Option.bind_some, if_pos c2, if_neg n1_0, f_isMany, Option.bind_some, if_neg c3]; rfl
    · refine ⟨-1, h, h, ?_, ?_, hI⟩
      · unfold f_X7_layer
        rw [f_below, Option.bind_some, if_pos (lt4 hk).1, if_neg n1_0, f_upto, Option.bind_some, if_neg c2]; rfl
      · unfold f_X8_layer
        rw [f_isPlace, Option.bind_some, if_pos (lt4 hk).2, if_neg n1_0, f_isMany, Option.bind_some, if_neg c2]; rfl
  · refine ⟨-1, h, h, ?_, ?_, hI⟩
    · unfold f_X7_layer
      rw [f_below, Option.bind_some, if_neg (not_lt4 hb).1]; rfl
    · unfold f_X8_layer
      rw [f_isPlace, Option.bind_some, if_neg (not_lt4 hb).2]; rfl
theorem holeF (out lamp people hole : Int32) {k41 : Int32 → Int32 → Int32 → Int32 → TT → Option (Int32 × TT)} : ∀ (d n i : Nat) (f : Nat → Int32) (br : Int32), i + d = 12 → d < n → ∃ fm bm, ∀ (h' : TT) (sn : Nat), sn < 4 → -10 * h'.1 155 (4 * sn + 2) = out → f_X8_hole_59 k41 n (nI sn) lamp people hole 0 (nI i) (MI h' f br) = k41 (nI sn) lamp people (hole + 1) (MI h' fm bm) := by
  intro d
  induction d with
  | zero =>
    intro n i f br hi hn
    obtain ⟨n, rfl⟩ : ∃ g, n = g + 1 := ⟨n - 1, by omega⟩
    refine ⟨f, br, fun h' sn hs ho => ?_⟩
    rw [f_X8_hole_59, if_pos (show (12 : Int32) ≤ nI i from nI_le (a := 12) (by omega) (by omega)), if_pos rfl]
  | succ d ih =>
    intro n i f br hi hn
    obtain ⟨n, rfl⟩ : ∃ g, n = g + 1 := ⟨n - 1, by omega⟩
    obtain ⟨f1, b1, -, z2⟩ := hour2 out lamp people hole 1 f br
    obtain ⟨fm, bm, q⟩ := ih n (i + 1) f1 b1 (by omega) (by omega)
    refine ⟨fm, bm, fun h' sn hs ho => ?_⟩
    rw [f_X8_hole_59, if_neg (show ¬ (12 : Int32) ≤ nI i from nI_ge (b := 12) (by omega) (by omega)), z2 h' sn hs ho, Option.bind_some, if_pos rfl]
    unfold f_X8_hole_94 f_X8_hole_95
    rw [nI_1]
    exact q h' sn hs ho
theorem holeT (out lamp people hole : Int32) {k41 : Int32 → Int32 → Int32 → Int32 → TT → Option (Int32 × TT)} : ∀ (d n m i : Nat) (f : Nat → Int32) (br : Int32), i + d = 12 → d < n → d < m → ∃ (ok : Bool) (fc : Nat → Int32) (bc : Int32) (fm : Nat → Int32) (bm : Int32), (ok = true → fc = fm ∧ bc = bm) ∧ (∀ h, PC h out lamp people hole 1 → f_X2_breathes_2 n (nI i) (CI h f br) = some (bI ok, CI h fc bc)) ∧ ∀ (h' : TT) (sn : Nat), sn < 4 → -10 * h'.1 155 (4 * sn + 2) = out → f_X8_hole_59 k41 m (nI sn) lamp people hole 1 (nI i) (MI h' f br) = if ok = true then some (hole, wr (MI h' fm bm) 147 2 (fm 5)) else k41 (nI sn) lamp people (hole + 1) (MI h' fm bm) := by
  intro d
  induction d with
  | zero =>
    intro n m i f br hi hn hm
    obtain ⟨n, rfl⟩ : ∃ g, n = g + 1 := ⟨n - 1, by omega⟩
    obtain ⟨m, rfl⟩ : ∃ g, m = g + 1 := ⟨m - 1, by omega⟩
    refine ⟨true, f, br, f, br, fun _ => ⟨rfl, rfl⟩, fun h hp => ?_, fun h' sn hs ho => ?_⟩
    · rw [f_X2_breathes_2, if_pos (show (12 : Int32) ≤ nI i from nI_le (a := 12) (by omega) (by omega))]
      rfl
    · rw [f_X8_hole_59, if_pos (show (12 : Int32) ≤ nI i from nI_le (a := 12) (by omega) (by omega)), if_neg n1_0, if_pos ib56, tn5, mi_6 (by omega), if_pos rfl]
      rfl
  | succ d ih =>
    intro n m i f br hi hn hm
    obtain ⟨n, rfl⟩ : ∃ g, n = g + 1 := ⟨n - 1, by omega⟩
    obtain ⟨m, rfl⟩ : ∃ g, m = g + 1 := ⟨m - 1, by omega⟩
    have n12 : ¬ (12 : Int32) ≤ nI i := nI_ge (b := 12) (by omega) (by omega)
    obtain ⟨f1, b1, z1, z2⟩ := hour2 out lamp people hole 1 f br
    by_cases e : 50 ≤ b1
    · obtain ⟨ok, fc, bc, fm, bm, q0, q1, q2⟩ := ih n m (i + 1) f1 b1 (by omega) (by omega) (by omega)
      refine ⟨ok, fc, bc, fm, bm, q0, fun h hp => ?_, fun h' sn hs ho => ?_⟩
      · rw [f_X2_breathes_2, if_neg n12, z1 h hp, Option.bind_some, ci_1, if_pos e, nI_1]
        exact q1 h hp
      · rw [f_X8_hole_59, if_neg n12, z2 h' sn hs ho, Option.bind_some, if_neg n1_0, mi_1, if_neg (fun y => by have a := i32_lt.mp y; have b := i32_le.mp e; omega)]
        unfold f_X8_hole_95
        rw [nI_1]
        exact q2 h' sn hs ho
    · obtain ⟨fm, bm, q⟩ := holeF out lamp people hole (k41 := k41) d m (i + 1) f1 b1 (by omega) (by omega)
      refine ⟨false, f1, b1, fm, bm, fun z => (by cases z), fun h hp => ?_, fun h' sn hs ho => ?_⟩
      · rw [f_X2_breathes_2, if_neg n12, z1 h hp, Option.bind_some, ci_1, if_neg e]
        rfl
      · rw [f_X8_hole_59, if_neg n12, z2 h' sn hs ho, Option.bind_some, if_neg n1_0, mi_1, if_pos (by rw [i32_lt]; rw [i32_le] at e; omega), if_neg (by decide)]
        unfold f_X8_hole_94 f_X8_hole_95
        rw [nI_1]
        exact q h' sn hs ho
theorem holeO (cold lamp people : Int32) {sn : Nat} (hs : sn < 4) : ∀ (d n m t : Nat), t + d = 10 → d < n → d < m → ∃ (tl : Bool) (r v : Int32), (∀ s : TT, s.1 (17 + 2 * sn) 2 = cold → ∃ s1, ScQ s s1 ∧ f_X7_hole_49 n (nI sn) lamp people (nI t) s = some (r, if tl = true then wr s1 0 13 v else s1)) ∧ ∀ s : TT, s.1 155 (4 * sn + 2) = cold → ∃ s1, ScQ s s1 ∧ f_X8_hole_41 m (nI sn) lamp people (nI t) s = some (r, if tl = true then wr s1 147 2 v else s1) := by
  intro d
  induction d with
  | zero =>
    intro n m t ht hn hm
    obtain ⟨n, rfl⟩ : ∃ g, n = g + 1 := ⟨n - 1, by omega⟩
    obtain ⟨m, rfl⟩ : ∃ g, m = g + 1 := ⟨m - 1, by omega⟩
    have n9 : (9 : Int32) < nI t := nI_lt (a := 9) (by omega) (by omega)
    refine ⟨false, -9, 0, fun s hc => ⟨s, ScQ.rf s, ?_⟩, fun s hc => ⟨s, ScQ.rf s, ?_⟩⟩
    · rw [f_X7_hole_49, if_pos n9]
      rfl
    · rw [f_X8_hole_41, if_pos n9]
      rfl
  | succ d ih =>
    intro n m t ht hn hm
    obtain ⟨n, rfl⟩ : ∃ g, n = g + 1 := ⟨n - 1, by omega⟩
    obtain ⟨m, rfl⟩ : ∃ g, m = g + 1 := ⟨m - 1, by omega⟩
    have n9 : ¬ (9 : Int32) < nI t := nI_nlt (a := 9) (by omega) (by omega)
    obtain ⟨ok, fc, bc, fm, bm, q0, q1, q2⟩ := holeT (-10 * cold) lamp people (nI t) (k41 := f_X8_hole_41 m) 12 KF KF 0 (fun _ => -10 * cold) 100 (by omega) (by decide) (by decide)
    have hc1 : ∀ s : TT, s.1 (17 + 2 * sn) 2 = cold → f_X7_hole_49 (n + 1) (nI sn) lamp people (nI t) s = (if bI ok = 0 then f_X7_hole_49 n (nI sn) lamp people (nI (t + 1)) (CI (ent s (-10 * cold) lamp people (nI t) 1) fc bc) else some (nI t, wr (CI (ent s (-10 * cold) lamp people (nI t) 1) fc bc) 0 13 (fc 5))) := fun s hc => by
      have b0 := q1 (ent s (-10 * cold) lamp people (nI t) 1) ent_PC
      rw [f_X7_hole_49, if_neg n9, if_pos (inb_nI hs (by decide)), if_pos (show inb 2 4 = true by decide), tn2, nI_clamp (by omega), show 16 + 2 * sn + 1 = 17 + 2 * sn by omega, hc, c_enter s _ _ _ _ _ (by decide), Option.bind_some]
      unfold f_X2_breathes
      rw [show (0 : Int32) = nI 0 from rfl, b0, Option.bind_some, if_pos ib56, tn5, ci_6 (by omega), nm_eq, nI_1]
    have hc2 : ∀ s : TT, s.1 155 (4 * sn + 2) = cold → f_X8_hole_41 (m + 1) (nI sn) lamp people (nI t) s = (if ok = true then some (nI t, wr (MI s fm bm) 147 2 (fm 5)) else f_X8_hole_41 m (nI sn) lamp people (nI (t + 1)) (MI s fm bm)) := fun s hc => by
      have b0 := q2 s sn hs (by rw [hc])
      rw [f_X8_hole_41, if_neg n9, m_begin hs, Option.bind_some, hc, show (0 : Int32) = nI 0 from rfl, b0, nI_1]
    cases ok with
    | true =>
      obtain ⟨rfl, rfl⟩ := q0 rfl
      refine ⟨true, nI t, fc 5, fun s hc => ⟨CI (ent s (-10 * cold) lamp people (nI t) 1) fc bc, scq_ent.tr scq_CI, ?_⟩, fun s hc => ⟨MI s fc bc, scq_MI, ?_⟩⟩
      · rw [hc1 s hc, if_neg (bI_t rfl), if_pos rfl]
      · rw [hc2 s hc, if_pos rfl, if_pos rfl]
    | false =>
      obtain ⟨tl, r, v, z1, z2⟩ := ih n m (t + 1) (by omega) (by omega) (by omega)
      refine ⟨tl, r, v, fun s hc => ?_, fun s hc => ?_⟩
      · have sq : ScQ s (CI (ent s (-10 * cold) lamp people (nI t) 1) fc bc) := scq_ent.tr scq_CI
        obtain ⟨s1, a1, a2⟩ := z1 (CI (ent s (-10 * cold) lamp people (nI t) 1) fc bc) (by rw [sq.1 _ _ (fun z => by unfold Scr at z; omega)]; exact hc)
        refine ⟨s1, sq.tr a1, ?_⟩
        rw [hc1 s hc, if_pos bIf]
        exact a2
      · have sq : ScQ s (MI s fm bm) := scq_MI
        obtain ⟨s1, a1, a2⟩ := z2 (MI s fm bm) (by rw [sq.1 _ _ (fun z => by unfold Scr at z; omega)]; exact hc)
        refine ⟨s1, sq.tr a1, ?_⟩
        rw [hc2 s hc, if_neg (by decide)]
        exact a2
theorem st_hole : ST_hole INV := by
  intro h hI x1 x2 x3
  have x := hI.2.2.2.2.2
  rcases place x1 4 (by decide) with ⟨k, hk, rfl⟩ | hb
  · by_cases c2 : 0 ≤ x2 ∧ x2 ≤ 9
    · by_cases c3 : 0 ≤ x3 ∧ x3 ≤ 9
      · have cc : f_X7_hole h (nI k) x2 x3 = (if (h.1 (16 + 2 * k) 0) = 0 then (f_X7_found h (1 : Int32)).bind fun q9 => some (q9.1, q9.2) else f_X7_hole_49 KF (nI k) x2 x3 (0 : Int32) h) := by
          unfold f_X7_hole
          rw [f_below, Option.bind_some, if_pos (lt4 hk).1, if_neg n1_0, f_upto, Option.bind_some, if_pos c2, if_neg n1_0, f_upto, Option.bind_some, if_pos c3, if_neg n1_0, if_pos (inb_nI hk (by decide)), nI_clamp (by omega)]
        have mm : ∀ g : TT, f_X8_hole g (nI k) x2 x3 = (if (g.1 154 k) = 0 then (f_X8_meets g (1 : Int32)).bind fun q9 => some (q9.1, q9.2) else f_X8_hole_41 KF (nI k) x2 x3 (0 : Int32) g) := fun g => by
          unfold f_X8_hole
          rw [f_isPlace, Option.bind_some, if_pos (lt4 hk).2, if_neg n1_0, f_isMany, Option.bind_some, if_pos c2, if_neg n1_0, f_isMany, Option.bind_some, if_pos c3, if_neg n1_0, if_pos (inb_nI hk (by decide)), nI_clamp (by omega)]
        rcases sn_cs (x.1 k hk) with ⟨p1, p2⟩ | ⟨p1, p2⟩
        · refine ⟨-3, hFind h 1, hMeet (hFind h 1) 1, ?_, ?_, inv_find XX_fr.frx hI (by decide)⟩
          · rw [cc, if_pos p1]
            exact fm_find h (by decide) rfl
          · rw [mm, hFind_r (by omega) (by omega), if_pos p2]
            exact fm_meet _ (by decide) rfl
        · have co := sn_cold (x.1 k hk) p2
          obtain ⟨tl, r, v, z1, z2⟩ := holeO (h.1 155 (4 * k + 2)) x2 x3 hk 10 KF KF 0 (by omega) (by decide) (by decide)
          obtain ⟨s1, a1, a2⟩ := z1 h co
          cases tl with
          | true =>
            rw [if_pos rfl] at a2
            have r4 : (wr s1 0 13 v).1 154 k = 1 := by rw [wr_row (by omega), a1.1 154 k (fun z => by unfold Scr at z; omega)]; exact p2
            have r5 : (wr s1 0 13 v).1 155 (4 * k + 2) = h.1 155 (4 * k + 2) := by rw [wr_row (by omega), a1.1 155 _ (fun z => by unfold Scr at z; omega)]
            obtain ⟨s2, b1, b2⟩ := z2 (wr s1 0 13 v) r5
            rw [if_pos rfl] at b2
            refine ⟨r, wr s1 0 13 v, wr s2 147 2 v, ?_, ?_, inv_Q hI a1 b1⟩
            · rw [cc, if_neg (by rw [p1]; decide), show (0 : Int32) = nI 0 from rfl]
              exact a2
            · rw [mm, if_neg (by rw [r4]; decide), show (0 : Int32) = nI 0 from rfl]
              exact b2
          | false =>
            rw [if_neg (by decide)] at a2
            have r4 : s1.1 154 k = 1 := by rw [a1.1 154 k (fun z => by unfold Scr at z; omega)]; exact p2
            have r5 : s1.1 155 (4 * k + 2) = h.1 155 (4 * k + 2) := by rw [a1.1 155 _ (fun z => by unfold Scr at z; omega)]
            obtain ⟨s2, b1, b2⟩ := z2 s1 r5
            rw [if_neg (by decide)] at b2
            refine ⟨r, s1, s2, ?_, ?_, inv_Q0 hI a1 b1⟩
            · rw [cc, if_neg (by rw [p1]; decide), show (0 : Int32) = nI 0 from rfl]
              exact a2
            · rw [mm, if_neg (by rw [r4]; decide), show (0 : Int32) = nI 0 from rfl]
              exact b2
      · refine ⟨-1, h, h, ?_, ?_, hI⟩
        · unfold f_X7_hole
          rw [f_below, Option.bind_some, if_pos (lt4 hk).1, if_neg n1_0, f_upto, Option.bind_some, if_pos c2, if_neg n1_0, f_upto, Option.bind_some, if_neg c3]; rfl
        · unfold f_X8_hole
          rw [f_isPlace, Option.bind_some, if_pos (lt4 hk).2, if_neg n1_0, f_isMany, Option.bind_some, if_pos c2, if_neg n1_0, f_isMany, Option.bind_some, if_neg c3]; rfl
    · refine ⟨-1, h, h, ?_, ?_, hI⟩
      · unfold f_X7_hole
        rw [f_below, Option.bind_some, if_pos (lt4 hk).1, if_neg n1_0, f_upto, Option.bind_some, if_neg c2]; rfl
      · unfold f_X8_hole
        rw [f_isPlace, Option.bind_some, if_pos (lt4 hk).2, if_neg n1_0, f_isMany, Option.bind_some, if_neg c2]; rfl
  · refine ⟨-1, h, h, ?_, ?_, hI⟩
    · unfold f_X7_hole
      rw [f_below, Option.bind_some, if_neg (not_lt4 hb).1]; rfl
    · unfold f_X8_hole
      rw [f_isPlace, Option.bind_some, if_neg (not_lt4 hb).2]; rfl
theorem dripF (out lamp people hole : Int32) {k42 : Int32 → Int32 → Int32 → Int32 → TT → Option (Int32 × TT)} : ∀ (d n i : Nat) (f : Nat → Int32) (br th : Int32), i + d = 24 → d < n → ∃ fm bm, ∀ (h' : TT) (sn : Nat), sn < 4 → -10 * h'.1 155 (4 * sn + 2) = out → f_X8_drips_61 k42 n (nI sn) people hole lamp 0 th (nI i) (MI h' f br) = k42 (nI sn) people hole (lamp + -1) (MI h' fm bm) := by
  intro d
  induction d with
  | zero =>
    intro n i f br th hi hn
    obtain ⟨n, rfl⟩ : ∃ g, n = g + 1 := ⟨n - 1, by omega⟩
    refine ⟨f, br, fun h' sn hs ho => ?_⟩
    rw [f_X8_drips_61, if_pos (show (24 : Int32) ≤ nI i from nI_le (a := 24) (by omega) (by omega)), if_pos rfl]
  | succ d ih =>
    intro n i f br th hi hn
    obtain ⟨n, rfl⟩ : ∃ g, n = g + 1 := ⟨n - 1, by omega⟩
    obtain ⟨f1, b1, -, z2⟩ := hour2 out lamp people hole 1 f br
    by_cases e : f1 5 ≤ 0
    · obtain ⟨fm, bm, q⟩ := ih n (i + 1) f1 b1 (th + 0) (by omega) (by omega)
      refine ⟨fm, bm, fun h' sn hs ho => ?_⟩
      rw [f_X8_drips_61, if_neg (show ¬ (24 : Int32) ≤ nI i from nI_ge (b := 24) (by omega) (by omega)), z2 h' sn hs ho, Option.bind_some, if_pos rfl]
      unfold f_X8_drips_98 f_X8_drips_99 f_X8_drips_117
      rw [if_pos ib56, tn5, mi_6 (by omega), if_pos e, nm_eq, nI_1]
      exact q h' sn hs ho
    · obtain ⟨fm, bm, q⟩ := ih n (i + 1) f1 b1 (th + 1) (by omega) (by omega)
      refine ⟨fm, bm, fun h' sn hs ho => ?_⟩
      rw [f_X8_drips_61, if_neg (show ¬ (24 : Int32) ≤ nI i from nI_ge (b := 24) (by omega) (by omega)), z2 h' sn hs ho, Option.bind_some, if_pos rfl]
      unfold f_X8_drips_98 f_X8_drips_99 f_X8_drips_117
      rw [if_pos ib56, tn5, mi_6 (by omega), if_neg e, nm_eq, nI_1]
      exact q h' sn hs ho
theorem dripT (out lamp people hole : Int32) {k42 : Int32 → Int32 → Int32 → Int32 → TT → Option (Int32 × TT)} : ∀ (d n m i th : Nat) (f : Nat → Int32) (br : Int32), i + d = 24 → d < n → d < m → th ≤ 24 - d → ∃ (ok : Bool) (tv : Nat) (fc : Nat → Int32) (bc : Int32) (fm : Nat → Int32) (bm : Int32), tv ≤ 24 ∧ (∀ h, PC h out lamp people hole 1 → f_X2_thawedHours_4 n (nI th) (nI i) (CI h f br) = some (if ok = true then nI tv else -9, CI h fc bc)) ∧ ∀ (h' : TT) (sn : Nat), sn < 4 → -10 * h'.1 155 (4 * sn + 2) = out → f_X8_drips_61 k42 m (nI sn) people hole lamp 1 (nI th) (nI i) (MI h' f br) = if ok = true then some (lamp, wr (MI h' fm bm) 147 2 (nI tv)) else k42 (nI sn) people hole (lamp + -1) (MI h' fm bm) := by
  intro d
  induction d with
  | zero =>
    intro n m i th f br hi hn hm ht
    obtain ⟨n, rfl⟩ : ∃ g, n = g + 1 := ⟨n - 1, by omega⟩
    obtain ⟨m, rfl⟩ : ∃ g, m = g + 1 := ⟨m - 1, by omega⟩
    have n24 : (24 : Int32) ≤ nI i := nI_le (a := 24) (by omega) (by omega)
    refine ⟨true, th, f, br, f, br, by omega, fun h hp => ?_, fun h' sn hs ho => ?_⟩
    · rw [f_X2_thawedHours_4, if_pos n24, if_pos rfl]
    · rw [f_X8_drips_61, if_pos n24, if_neg n1_0, if_pos rfl]
      rfl
  | succ d ih =>
    intro n m i th f br hi hn hm ht
    obtain ⟨n, rfl⟩ : ∃ g, n = g + 1 := ⟨n - 1, by omega⟩
    obtain ⟨m, rfl⟩ : ∃ g, m = g + 1 := ⟨m - 1, by omega⟩
    have n24 : ¬ (24 : Int32) ≤ nI i := nI_ge (b := 24) (by omega) (by omega)
    obtain ⟨f1, b1, z1, z2⟩ := hour2 out lamp people hole 1 f br
    by_cases e : f1 5 ≤ 30
    · have e' : ¬ 30 < f1 5 := fun y => by have a := i32_lt.mp y; have b := i32_le.mp e; omega
      by_cases e2 : f1 5 ≤ 0
      · obtain ⟨ok, tv, fc, bc, fm, bm, q0, q1, q2⟩ := ih n m (i + 1) th f1 b1 (by omega) (by omega) (by omega) (by omega)
        refine ⟨ok, tv, fc, bc, fm, bm, q0, fun h hp => ?_, fun h' sn hs ho => ?_⟩
        · rw [f_X2_thawedHours_4, if_neg n24, z1 h hp, Option.bind_some, if_pos ib56, if_pos ib56, tn5, ci_6 (by omega), if_pos e, if_pos e2]
          unfold f_X2_thawedHours_40
          rw [nI_1]
          exact q1 h hp
        · rw [f_X8_drips_61, if_neg n24, z2 h' sn hs ho, Option.bind_some, if_neg n1_0, if_pos ib56, tn5, mi_6 (by omega), if_neg e']
          unfold f_X8_drips_99 f_X8_drips_117
          rw [if_pos ib56, tn5, mi_6 (by omega), if_pos e2, nm_eq, nI_1, show nI th + 0 = nI (th + 0) from nI_add th 0]
          exact q2 h' sn hs ho
      · obtain ⟨ok, tv, fc, bc, fm, bm, q0, q1, q2⟩ := ih n m (i + 1) (th + 1) f1 b1 (by omega) (by omega) (by omega) (by omega)
        refine ⟨ok, tv, fc, bc, fm, bm, q0, fun h hp => ?_, fun h' sn hs ho => ?_⟩
        · rw [f_X2_thawedHours_4, if_neg n24, z1 h hp, Option.bind_some, if_pos ib56, if_pos ib56, tn5, ci_6 (by omega), if_pos e, if_neg e2]
          unfold f_X2_thawedHours_40
          rw [nI_1 th, nI_1 i]
          exact q1 h hp
        · rw [f_X8_drips_61, if_neg n24, z2 h' sn hs ho, Option.bind_some, if_neg n1_0, if_pos ib56, tn5, mi_6 (by omega), if_neg e']
          unfold f_X8_drips_99 f_X8_drips_117
          rw [if_pos ib56, tn5, mi_6 (by omega), if_neg e2, nm_eq, nI_1 th, nI_1 i]
          exact q2 h' sn hs ho
    · have e' : 30 < f1 5 := by rw [i32_lt]; rw [i32_le] at e; omega
      have t2 : ∀ x : Int32, ∃ fm bm, ∀ (h' : TT) (sn : Nat), sn < 4 → -10 * h'.1 155 (4 * sn + 2) = out → f_X8_drips_61 k42 m (nI sn) people hole lamp 0 x (nI (i + 1)) (MI h' f1 b1) = k42 (nI sn) people hole (lamp + -1) (MI h' fm bm) := fun x => dripF out lamp people hole (k42 := k42) d m (i + 1) f1 b1 x (by omega) (by omega)
      by_cases e2 : f1 5 ≤ 0
      · exact absurd e2 (fun y => by
          have a := i32_lt.mp e'
          have b := i32_le.mp y
          have z0 : (0 : Int32).toInt = 0 := rfl
          have z1 : (30 : Int32).toInt = 30 := rfl
          omega)
      · obtain ⟨fm, bm, q⟩ := t2 (nI th + 1)
        refine ⟨false, 0, f1, b1, fm, bm, by omega, fun h hp => ?_, fun h' sn hs ho => ?_⟩
        · rw [f_X2_thawedHours_4, if_neg n24, z1 h hp, Option.bind_some, if_pos ib56, tn5, ci_6 (by omega), if_neg e, if_neg (by decide)]
        · rw [f_X8_drips_61, if_neg n24, z2 h' sn hs ho, Option.bind_some, if_neg n1_0, if_pos ib56, tn5, mi_6 (by omega), if_pos e', if_neg (show ¬ false = true by decide)]
          unfold f_X8_drips_98 f_X8_drips_99 f_X8_drips_117
          rw [if_pos ib56, tn5, mi_6 (by omega), if_neg e2, nm_eq, nI_1 i]
          exact q h' sn hs ho
theorem dripO (cold people hole : Int32) {sn : Nat} (hs : sn < 4) : ∀ (a n m : Nat), a ≤ 10 → a < n → a < m → ∃ (tl : Bool) (r v : Int32), (∀ s : TT, s.1 (17 + 2 * sn) 2 = cold → ∃ s1, ScQ s s1 ∧ f_X7_drips_50 n (nI sn) people hole (nI a - 1) s = some (r, if tl = true then wr s1 0 13 v else s1)) ∧ ∀ s : TT, s.1 155 (4 * sn + 2) = cold → ∃ s1, ScQ s s1 ∧ f_X8_drips_42 m (nI sn) people hole (nI a - 1) s = some (r, if tl = true then wr s1 147 2 v else s1) := by
  intro a
  induction a with
  | zero =>
    intro n m ha hn hm
    obtain ⟨n, rfl⟩ : ∃ g, n = g + 1 := ⟨n - 1, by omega⟩
    obtain ⟨m, rfl⟩ : ∃ g, m = g + 1 := ⟨m - 1, by omega⟩
    have n0 : nI 0 - 1 < 0 := by decide
    refine ⟨false, -9, 0, fun s hc => ⟨s, ScQ.rf s, ?_⟩, fun s hc => ⟨s, ScQ.rf s, ?_⟩⟩
    · rw [f_X7_drips_50, if_pos n0]
      rfl
    · rw [f_X8_drips_42, if_pos n0]
      rfl
  | succ a ih =>
    intro n m ha hn hm
    obtain ⟨n, rfl⟩ : ∃ g, n = g + 1 := ⟨n - 1, by omega⟩
    obtain ⟨m, rfl⟩ : ∃ g, m = g + 1 := ⟨m - 1, by omega⟩
    have n0 : ¬ nI a < 0 := nI_pos (by omega)
    have am : nI a + -1 = nI a - 1 := (Int32.sub_eq_add_neg (a := nI a) (b := 1)).symm
    rw [nI_pred]
    obtain ⟨ok, tv, fc, bc, fm, bm, q0, q1, q2⟩ := dripT (-10 * cold) (nI a) people hole (k42 := f_X8_drips_42 m) 24 KF KF 0 0 (fun _ => -10 * cold) 100 (by omega) (by decide) (by decide) (by omega)
    have hc1 : ∀ s : TT, s.1 (17 + 2 * sn) 2 = cold → f_X7_drips_50 (n + 1) (nI sn) people hole (nI a) s = (if (if ok = true then nI tv else -9) = -9 then f_X7_drips_50 n (nI sn) people hole (nI a - 1) (CI (ent s (-10 * cold) (nI a) people hole 1) fc bc) else some (nI a, wr (CI (ent s (-10 * cold) (nI a) people hole 1) fc bc) 0 13 (if ok = true then nI tv else -9))) := fun s hc => by
      have b0 := q1 (ent s (-10 * cold) (nI a) people hole 1) ent_PC
      rw [f_X7_drips_50, if_neg n0, if_pos (inb_nI hs (by decide)), if_pos (show inb 2 4 = true by decide), tn2, nI_clamp (by omega), show 16 + 2 * sn + 1 = 17 + 2 * sn by omega, hc, c_enter s _ _ _ _ _ (by decide), Option.bind_some]
      unfold f_X2_thawedHours
      rw [show (0 : Int32) = nI 0 from rfl, b0, Option.bind_some, nm_eq, nm_eq, am]
    have hc2 : ∀ s : TT, s.1 155 (4 * sn + 2) = cold → f_X8_drips_42 (m + 1) (nI sn) people hole (nI a) s = (if ok = true then some (nI a, wr (MI s fm bm) 147 2 (nI tv)) else f_X8_drips_42 m (nI sn) people hole (nI a - 1) (MI s fm bm)) := fun s hc => by
      have b0 := q2 s sn hs (by rw [hc])
      rw [am] at b0
      rw [f_X8_drips_42, if_neg n0, m_begin hs, Option.bind_some, hc, show (0 : Int32) = nI 0 from rfl, b0]
    cases ok with
    | true =>
      refine ⟨true, nI a, nI tv, fun s hc => ⟨CI (ent s (-10 * cold) (nI a) people hole 1) fc bc, scq_ent.tr scq_CI, ?_⟩, fun s hc => ⟨MI s fm bm, scq_MI, ?_⟩⟩
      · rw [hc1 s hc, if_pos rfl, if_neg (nI_m9 (by omega)), if_pos rfl]
      · rw [hc2 s hc, if_pos rfl, if_pos rfl]
    | false =>
      obtain ⟨tl, r, v, z1, z2⟩ := ih n m (by omega) (by omega) (by omega)
      refine ⟨tl, r, v, fun s hc => ?_, fun s hc => ?_⟩
      · have sq : ScQ s (CI (ent s (-10 * cold) (nI a) people hole 1) fc bc) := scq_ent.tr scq_CI
        obtain ⟨s1, a1, a2⟩ := z1 (CI (ent s (-10 * cold) (nI a) people hole 1) fc bc) (by rw [sq.1 _ _ (fun z => by unfold Scr at z; omega)]; exact hc)
        refine ⟨s1, sq.tr a1, ?_⟩
        rw [hc1 s hc, if_neg (show ¬ false = true by decide), if_pos rfl]
        exact a2
      · have sq : ScQ s (MI s fm bm) := scq_MI
        obtain ⟨s1, a1, a2⟩ := z2 (MI s fm bm) (by rw [sq.1 _ _ (fun z => by unfold Scr at z; omega)]; exact hc)
        refine ⟨s1, sq.tr a1, ?_⟩
        rw [hc2 s hc, if_neg (show ¬ false = true by decide)]
        exact a2
theorem st_drips : ST_drips INV := by
  intro h hI x1 x2 x3
  have x := hI.2.2.2.2.2
  rcases place x1 4 (by decide) with ⟨k, hk, rfl⟩ | hb
  · by_cases c2 : 0 ≤ x2 ∧ x2 ≤ 9
    · by_cases c3 : 0 ≤ x3 ∧ x3 ≤ 9
      · have cc : f_X7_drips h (nI k) x2 x3 = (if (h.1 (16 + 2 * k) 0) = 0 then (f_X7_found h (1 : Int32)).bind fun q9 => some (q9.1, q9.2) else f_X7_drips_50 KF (nI k) x2 x3 (9 : Int32) h) := by
          unfold f_X7_drips
          rw [f_below, Option.bind_some, if_pos (lt4 hk).1, if_neg n1_0, f_upto, Option.bind_some, if_pos c2, if_neg n1_0, f_upto, Option.bind_some, if_pos c3, if_neg n1_0, if_pos (inb_nI hk (by decide)), nI_clamp (by omega)]
        have mm : ∀ g : TT, f_X8_drips g (nI k) x2 x3 = (if (g.1 154 k) = 0 then (f_X8_meets g (1 : Int32)).bind fun q9 => some (q9.1, q9.2) else f_X8_drips_42 KF (nI k) x2 x3 (9 : Int32) g) := fun g => by
          unfold f_X8_drips
          rw [f_isPlace, Option.bind_some, if_pos (lt4 hk).2, if_neg n1_0, f_isMany, Option.bind_some, if_pos c2, if_neg n1_0, f_isMany, Option.bind_some, if_pos c3, if_neg n1_0, if_pos (inb_nI hk (by decide)), nI_clamp (by omega)]
        rcases sn_cs (x.1 k hk) with ⟨p1, p2⟩ | ⟨p1, p2⟩
        · refine ⟨-3, hFind h 1, hMeet (hFind h 1) 1, ?_, ?_, inv_find XX_fr.frx hI (by decide)⟩
          · rw [cc, if_pos p1]
            exact fm_find h (by decide) rfl
          · rw [mm, hFind_r (by omega) (by omega), if_pos p2]
            exact fm_meet _ (by decide) rfl
        · have co := sn_cold (x.1 k hk) p2
          obtain ⟨tl, r, v, z1, z2⟩ := dripO (h.1 155 (4 * k + 2)) x2 x3 hk 10 KF KF (by omega) (by decide) (by decide)
          obtain ⟨s1, a1, a2⟩ := z1 h co
          cases tl with
          | true =>
            rw [if_pos rfl] at a2
            have r4 : (wr s1 0 13 v).1 154 k = 1 := by rw [wr_row (by omega), a1.1 154 k (fun z => by unfold Scr at z; omega)]; exact p2
            have r5 : (wr s1 0 13 v).1 155 (4 * k + 2) = h.1 155 (4 * k + 2) := by rw [wr_row (by omega), a1.1 155 _ (fun z => by unfold Scr at z; omega)]
            obtain ⟨s2, b1, b2⟩ := z2 (wr s1 0 13 v) r5
            rw [if_pos rfl] at b2
            refine ⟨r, wr s1 0 13 v, wr s2 147 2 v, ?_, ?_, inv_Q hI a1 b1⟩
            · rw [cc, if_neg (by rw [p1]; decide), show (9 : Int32) = nI 10 - 1 from rfl]
              exact a2
            · rw [mm, if_neg (by rw [r4]; decide), show (9 : Int32) = nI 10 - 1 from rfl]
              exact b2
          | false =>
            rw [if_neg (by decide)] at a2
            have r4 : s1.1 154 k = 1 := by rw [a1.1 154 k (fun z => by unfold Scr at z; omega)]; exact p2
            have r5 : s1.1 155 (4 * k + 2) = h.1 155 (4 * k + 2) := by rw [a1.1 155 _ (fun z => by unfold Scr at z; omega)]
            obtain ⟨s2, b1, b2⟩ := z2 s1 r5
            rw [if_neg (by decide)] at b2
            refine ⟨r, s1, s2, ?_, ?_, inv_Q0 hI a1 b1⟩
            · rw [cc, if_neg (by rw [p1]; decide), show (9 : Int32) = nI 10 - 1 from rfl]
              exact a2
            · rw [mm, if_neg (by rw [r4]; decide), show (9 : Int32) = nI 10 - 1 from rfl]
              exact b2
      · refine ⟨-1, h, h, ?_, ?_, hI⟩
        · unfold f_X7_drips
          rw [f_below, Option.bind_some, if_pos (lt4 hk).1, if_neg n1_0, f_upto, Option.bind_some, if_pos c2, if_neg n1_0, f_upto, Option.bind_some, if_neg c3]; rfl
        · unfold f_X8_drips
          rw [f_isPlace, Option.bind_some, if_pos (lt4 hk).2, if_neg n1_0, f_isMany, Option.bind_some, if_pos c2, if_neg n1_0, f_isMany, Option.bind_some, if_neg c3]; rfl
    · refine ⟨-1, h, h, ?_, ?_, hI⟩
      · unfold f_X7_drips
        rw [f_below, Option.bind_some, if_pos (lt4 hk).1, if_neg n1_0, f_upto, Option.bind_some, if_neg c2]; rfl
      · unfold f_X8_drips
        rw [f_isPlace, Option.bind_some, if_pos (lt4 hk).2, if_neg n1_0, f_isMany, Option.bind_some, if_neg c2]; rfl
  · refine ⟨-1, h, h, ?_, ?_, hI⟩
    · unfold f_X7_drips
      rw [f_below, Option.bind_some, if_neg (not_lt4 hb).1]; rfl
    · unfold f_X8_drips
      rw [f_isPlace, Option.bind_some, if_neg (not_lt4 hb).2]; rfl
end INV
