def ScQ (h s : TT) : Prop := (∀ i k, ¬ Scr i k → s.1 i k = h.1 i k) ∧ s.2 = h.2
def ent (h : TT) (out lamp people hole low : Int32) : TT := wr (wr (wr (wr (wr h 135 2 out) 135 3 lamp) 135 4 people) 135 5 hole) 135 6 low
section INV
variable {h h' g s s1 s2 : TT} {f : Nat → Int32} {br out lamp people hole low v : Int32}
theorem ScQ.rf (h : TT) : ScQ h h := ⟨fun _ _ _ => rfl, rfl⟩
theorem ScQ.tr {a b c : TT} (h1 : ScQ a b) (h2 : ScQ b c) : ScQ a c := ⟨fun i k x => (h2.1 i k x).trans (h1.1 i k x), h2.2.trans h1.2⟩
theorem scq_w {i k : Nat} {v : Int32} (hc : Scr i k) : ScQ h (wr h i k v) := by
  refine ⟨fun a b x => ?_, rfl⟩
  rw [wr_1, if_neg (fun q => x (by rw [q.1, q.2]; exact hc))]
theorem scq_r {i : Nat} {f : Nat → Int32} (hc : ∀ k, Scr i k) : ScQ h (wrow h i f) := by
  refine ⟨fun a b x => ?_, rfl⟩
  rw [wrow_1, if_neg (fun q => x (by rw [q]; exact hc b))]
theorem scq_CI : ScQ h (CI h f br) := (scq_r (fun k => by unfold Scr; omega)).tr (scq_w (by unfold Scr; omega))
theorem scq_MI : ScQ h (MI h f br) := (scq_r (fun k => by unfold Scr; omega)).tr (scq_w (by unfold Scr; omega))
theorem scq_ent : ScQ h (ent h out lamp people hole low) := ((((scq_w (by unfold Scr; omega)).tr (scq_w (by unfold Scr; omega))).tr (scq_w (by unfold Scr; omega))).tr (scq_w (by unfold Scr; omega))).tr (scq_w (by unfold Scr; omega))
theorem ScQ.t (q : ScQ h s) : ScT h s := ⟨fun i k x _ _ => q.1 i k x, fun i k _ => by rw [q.2]⟩
theorem inv_Q (hI : INV h) (q1 : ScQ h s1) (q2 : ScQ (wr s1 0 13 v) s2) : INV (wr s2 147 2 v) := by
  refine inv_gen XX_fr hI (sct_a ((sct_t q1.t).tr q2.t)) ?_
  rw [wr_row (by omega), q2.1 0 13 (fun z => by unfold Scr at z; omega), wr_1, if_pos ⟨rfl, rfl⟩, wr_1, if_pos ⟨rfl, rfl⟩]
theorem inv_Q0 (hI : INV h) (q1 : ScQ h s1) (q2 : ScQ s1 s2) : INV s2 := by
  refine inv_gen XX_fr hI (q1.tr q2).t ?_
  rw [(q1.tr q2).1 0 13 (fun z => by unfold Scr at z; omega), (q1.tr q2).1 147 2 (fun z => by unfold Scr at z; omega)]
  exact hI.1
theorem ent_PC : PC (ent h out lamp people hole low) out lamp people hole low := by
  unfold ent PC
  simp [wr_1]
theorem ent_PCI : PC (CI (ent h out lamp people hole low) f br) out lamp people hole low := by
  obtain ⟨a, b, c, d, e⟩ := ent_PC (h := h) (out := out) (lamp := lamp) (people := people) (hole := hole) (low := low)
  exact ⟨(ci_p (by omega)).trans a, (ci_p (by omega)).trans b, (ci_p (by omega)).trans c, (ci_p (by omega)).trans d, (ci_p (by omega)).trans e⟩
theorem c_enter (h : TT) (cold lamp people hole low : Int32) (hz : isZ low = true) : f_X2_enter h cold lamp people hole low = some (CI (ent h (-10 * cold) lamp people hole low) (fun _ => -10 * cold) 100) := by
  unfold f_X2_enter
  rw [nm_eq, nm_eq, nm_eq, nm_eq, if_pos hz, nm_eq, nm_eq, fill_0 (by decide), Option.bind_some]
  have o : (wr (ent h (-10 * cold) lamp people hole low) 135 1 100).1 135 2 = -10 * cold := by
    rw [wr_1, if_neg (by omega)]
    exact ent_PC.1
  show some (wrow (wr (ent h (-10 * cold) lamp people hole low) 135 1 100) 136 (fun j => if j < 6 then (wr (ent h (-10 * cold) lamp people hole low) 135 1 100).1 135 2 else (wr (ent h (-10 * cold) lamp people hole low) 135 1 100).1 136 j)) = _
  rw [o]
  generalize ent h (-10 * cold) lamp people hole low = E
  refine congrArg some (Prod.ext (funext fun a => funext fun j => ?_) rfl)
  unfold CI
  rw [wrow_1, wr_1 (h := wrow E 136 _), wrow_1]
  by_cases e : a = 136
  · subst e
    rw [if_pos rfl, if_neg (show ¬ (136 = 135 ∧ j = 1) by omega), if_pos rfl]
    by_cases e2 : j < 6
    · rw [if_pos e2, if_pos e2]
    · rw [if_neg e2, if_neg e2, wr_row (by omega)]
  · rw [if_neg e, if_neg e, wr_1]
theorem MI_cg {f' : Nat → Int32} (e : ∀ j, j < 6 → f j = f' j) : MI h f br = MI h f' br := by
  unfold MI
  congr 2
  funext j
  by_cases q : j < 6
  · rw [if_pos q, if_pos q, e j q]
  · rw [if_neg q, if_neg q]
theorem m_bg8 {sn : Nat} (hs : sn < 4) : ∀ (d n i : Nat) (f : Nat → Int32), i + d = 6 → d < n → f_X8_begin_8 n (nI sn) (nI i) (MI h f br) = some (MI h (fun j => if i ≤ j then -10 * h.1 155 (4 * sn + 2) else f j) br) := by
  intro d
  induction d with
  | zero =>
    intro n i f hi hn
    obtain ⟨n, rfl⟩ : ∃ g, n = g + 1 := ⟨n - 1, by omega⟩
    rw [f_X8_begin_8, if_pos (show (6 : Int32) ≤ nI i from nI_le (a := 6) (by omega) (by omega))]
    exact congrArg some (MI_cg (fun j hj => (if_neg (by omega)).symm))
  | succ d ih =>
    intro n i f hi hn
    obtain ⟨n, rfl⟩ : ∃ g, n = g + 1 := ⟨n - 1, by omega⟩
    rw [f_X8_begin_8, if_neg (show ¬ (6 : Int32) ≤ nI i from nI_ge (b := 6) (by omega) (by omega)), show (4 : Int32) * nI sn + 2 = nI (4 * sn + 2) from k4s sn 2, if_pos (inb_nI (by omega) (by decide)), if_pos (inb_nI (by omega) (by decide)), nI_clamp (by omega), nI_clamp (by omega), mi_r (by omega) (by omega), mi_w (by omega), nm_eq, nI_1, ih n (i + 1) _ (by omega) (by omega)]
    refine congrArg some (MI_cg (fun j hj => ?_))
    show (if i + 1 ≤ j then _ else upd f i _ j) = if i ≤ j then _ else f j
    rw [upd_cases]
    by_cases e : i + 1 ≤ j
    · rw [if_pos e, if_pos (by omega)]
    · rw [if_neg e]
      by_cases e2 : j = i
      · rw [if_pos e2, if_pos (by omega)]
      · rw [if_neg e2, if_neg (by omega)]
theorem m_begin {sn : Nat} (hs : sn < 4) (h : TT) : f_X8_begin h (nI sn) = some (MI h (fun _ => -10 * h.1 155 (4 * sn + 2)) 100) := by
  unfold f_X8_begin
  have e : wr h 147 26 100 = MI h (h.1 164) 100 := by
    unfold MI
    congr 1
    refine Prod.ext (funext fun a => funext fun j => ?_) rfl
    rw [wrow_1]
    by_cases e : a = 164
    · rw [if_pos e, e]
      by_cases e2 : j < 6
      · rw [if_pos e2]
      · rw [if_neg e2]
    · rw [if_neg e]
  rw [nm_eq, e, show (0 : Int32) = nI 0 from rfl, m_bg8 hs 6 KF 0 _ (by omega) (by decide)]
  exact congrArg some (MI_cg (fun j hj => if_pos (by omega)))
theorem hour2 (out lamp people hole low : Int32) (f : Nat → Int32) (br : Int32) : ∃ f' b', (∀ h, PC h out lamp people hole low → f_X2_hour (CI h f br) = some (CI h f' b')) ∧ ∀ (h' : TT) (sn : Nat), sn < 4 → -10 * h'.1 155 (4 * sn + 2) = out → f_X8_hour (MI h' f br) (nI sn) lamp people hole low = some (MI h' f' b') := by
  obtain ⟨f', b', q⟩ := hour1 (out := out) (lamp := lamp) (people := people) (hole := hole) (low := low) f br
  exact ⟨f', b', fun h hp => (q h h hp).1, fun h' sn hs ho => (q (ent h' out lamp people hole low) h' ent_PC).2 sn hs ho⟩
theorem airL (out lamp people hole low : Int32) {N : Nat} (hN : N ≤ 48) : ∀ (d n i : Nat) (f : Nat → Int32) (br : Int32), i + d = N → d < n → ∃ f' b', (∀ h, PC h out lamp people hole low → f_X7_air_113 n (nI N) (nI i) (CI h f br) = some (b', wr (CI h f' b') 0 13 (f' 5))) ∧ (∀ h, PC h out lamp people hole low → ∀ ly : Nat, ly < 6 → f_X7_layer_104 n (nI N) (nI ly) (nI i) (CI h f br) = some (1, wr (CI h f' b') 0 13 (f' ly))) ∧ ∀ (h' : TT) (sn : Nat), sn < 4 → -10 * h'.1 155 (4 * sn + 2) = out → f_X8_hours_8 n (nI sn) lamp people hole low (nI N) (nI i) (MI h' f br) = some (MI h' f' b') := by
  intro d
  induction d with
  | zero =>
    intro n i f br hi hn
    obtain ⟨n, rfl⟩ : ∃ g, n = g + 1 := ⟨n - 1, by omega⟩
    obtain rfl : i = N := by omega
    have le : nI i ≤ nI i := nI_le (Nat.le_refl _) (by omega)
    refine ⟨f, br, fun h hp => ?_, fun h hp ly hl => ?_, fun h' sn hs ho => ?_⟩
    · rw [f_X7_air_113, if_pos le, if_pos ib56, tn5, ci_6 (by omega), nm_eq, wr_row (by omega), ci_1]
    · rw [f_X7_layer_104, if_pos le, if_pos (inb_nI hl (by decide)), nI_clamp (by omega), ci_6 hl, f_tell]
      rfl
    · rw [f_X8_hours_8, if_pos le]
  | succ d ih =>
    intro n i f br hi hn
    obtain ⟨n, rfl⟩ : ∃ g, n = g + 1 := ⟨n - 1, by omega⟩
    have ge : ¬ nI N ≤ nI i := nI_ge (by omega) (by omega)
    obtain ⟨f1, b1, z1, z2⟩ := hour2 out lamp people hole low f br
    obtain ⟨f', b', q1, q2, q3⟩ := ih n (i + 1) f1 b1 (by omega) (by omega)
    refine ⟨f', b', fun h hp => ?_, fun h hp ly hl => ?_, fun h' sn hs ho => ?_⟩
    · rw [f_X7_air_113, if_neg ge, z1 h hp, Option.bind_some, nI_1]
      exact q1 h hp
    · rw [f_X7_layer_104, if_neg ge, z1 h hp, Option.bind_some, nI_1]
      exact q2 h hp ly hl
    · rw [f_X8_hours_8, if_neg ge, z2 h' sn hs ho, Option.bind_some, nI_1]
      exact q3 h' sn hs ho
theorem sn_cold {k : Nat} (x : SNX h k) (t : h.1 154 k = 1) : h.1 (17 + 2 * k) 2 = h.1 155 (4 * k + 2) := by
  obtain ⟨-, b⟩ := x
  rcases b with b | ⟨-, b, -⟩
  · rw [t] at b; exact absurd b (by decide)
  · exact (b 2 (by omega)).1
theorem st_air : ST_air INV := by
  intro h hI x1 x2 x3 x4 x5 x6
  have x := hI.2.2.2.2.2
  rcases place x1 4 (by decide) with ⟨k, hk, rfl⟩ | hb
  · by_cases c2 : 0 ≤ x2 ∧ x2 ≤ 9
    · by_cases c3 : 0 ≤ x3 ∧ x3 ≤ 9
      · by_cases c4 : 0 ≤ x4 ∧ x4 ≤ 9
        · by_cases c5 : 0 ≤ x5 ∧ x5 ≤ 1
          · by_cases c6 : 0 ≤ x6 ∧ x6 ≤ 48
            · obtain ⟨N, hN, rfl⟩ := nI_of2 (M := 48) (n := 48) rfl (le_nlt c6.1) c6.2
              have cc : f_X7_air h (nI k) x2 x3 x4 x5 (nI N) = (if (h.1 (16 + 2 * k) 0) = 0 then (f_X7_found h (1 : Int32)).bind fun q15 => some (q15.1, q15.2) else (if x5 = (1 : Int32) then f_X7_air_107 (nI N) (1 : Int32) x4 x3 x2 (h.1 (17 + 2 * k) 2) h else f_X7_air_107 (nI N) (0 : Int32) x4 x3 x2 (h.1 (17 + 2 * k) 2) h)) := by
                unfold f_X7_air
                rw [f_below, Option.bind_some, if_pos (lt4 hk).1, if_neg n1_0, f_upto, Option.bind_some, if_pos c2, if_neg n1_0, f_upto, Option.bind_some, if_pos c3, if_neg n1_0, f_upto, Option.bind_some, if_pos c4, if_neg n1_0, f_upto, Option.bind_some, if_pos c5, if_neg n1_0, f_upto, Option.bind_some, if_pos c6, if_neg n1_0, if_pos (inb_nI hk (by decide)), nI_clamp (by omega), if_pos (inb_nI hk (by decide)), if_pos (show inb 2 4 = true by decide), tn2, show 16 + 2 * k + 1 = 17 + 2 * k by omega]
              have mm : ∀ g : TT, f_X8_air g (nI k) x2 x3 x4 x5 (nI N) = (if (g.1 154 k) = 0 then (f_X8_meets g (1 : Int32)).bind fun q15 => some (q15.1, q15.2) else (if x5 = (1 : Int32) then f_X8_air_84 (nI N) (1 : Int32) x4 x3 x2 (nI k) g else f_X8_air_84 (nI N) (0 : Int32) x4 x3 x2 (nI k) g)) := fun g => by
                unfold f_X8_air
                rw [f_isPlace, Option.bind_some, if_pos (lt4 hk).2, if_neg n1_0, f_isMany, Option.bind_some, if_pos c2, if_neg n1_0, f_isMany, Option.bind_some, if_pos c3, if_neg n1_0, f_isMany, Option.bind_some, if_pos c4, if_neg n1_0, f_in, Option.bind_some, if_pos c5, if_neg n1_0, f_in, Option.bind_some, if_pos c6, if_neg n1_0, if_pos (inb_nI hk (by decide)), nI_clamp (by omega)]
              rcases sn_cs (x.1 k hk) with ⟨p1, p2⟩ | ⟨p1, p2⟩
              · refine ⟨-3, hFind h 1, hMeet (hFind h 1) 1, ?_, ?_, inv_find XX_fr.frx hI (by decide)⟩
                · rw [cc, if_pos p1]
                  exact fm_find h (by decide) rfl
                · rw [mm, hFind_r (by omega) (by omega), if_pos p2]
                  exact fm_meet _ (by decide) rfl
              · have co := sn_cold (x.1 k hk) p2
                have lowk : ∀ low : Int32, isZ low = true → ∃ (r : Int32) (h1 : TT) (h2 : TT), f_X7_air_107 (nI N) low x4 x3 x2 (h.1 (17 + 2 * k) 2) h = some (r, h1) ∧ h1.1 154 k = 1 ∧ f_X8_air_84 (nI N) low x4 x3 x2 (nI k) h1 = some (r, h2) ∧ INV h2 := fun low hz => by
                  obtain ⟨f', b', q1, -, q3⟩ := airL (-10 * h.1 155 (4 * k + 2)) x2 x3 x4 low hN N KF 0 (fun _ => -10 * h.1 155 (4 * k + 2)) 100 (by omega) (by have := KF_ge; omega)
                  have e0 := q1 (ent h (-10 * h.1 155 (4 * k + 2)) x2 x3 x4 low) ent_PC
                  have sq : ScQ h (CI (ent h (-10 * h.1 155 (4 * k + 2)) x2 x3 x4 low) f' b') := scq_ent.tr scq_CI
                  generalize hs1 : CI (ent h (-10 * h.1 155 (4 * k + 2)) x2 x3 x4 low) f' b' = s1 at e0 sq
                  have r4 : (wr s1 0 13 (f' 5)).1 154 k = 1 := by rw [wr_row (by omega), sq.1 154 k (fun z => by unfold Scr at z; omega)]; exact p2
                  have r5 : (wr s1 0 13 (f' 5)).1 155 (4 * k + 2) = h.1 155 (4 * k + 2) := by rw [wr_row (by omega), sq.1 155 _ (fun z => by unfold Scr at z; omega)]
                  have e1 := q3 (wr s1 0 13 (f' 5)) k hk (by rw [r5])
                  refine ⟨b', wr s1 0 13 (f' 5), wr (MI (wr s1 0 13 (f' 5)) f' b') 147 2 (f' 5), ?_, r4, ?_, inv_Q hI sq scq_MI⟩
                  · unfold f_X7_air_107
                    rw [co, c_enter h _ _ _ _ _ hz, Option.bind_some, show (0 : Int32) = nI 0 from rfl]
                    exact e0
                  · unfold f_X8_air_84 f_X8_hours
                    rw [m_begin hk, Option.bind_some, r5, show (0 : Int32) = nI 0 from rfl, e1, Option.bind_some, if_pos ib56, tn5, mi_6 (by omega), mi_1]
                    rfl
                by_cases e5 : x5 = 1
                · obtain ⟨r, h1, h2, k1, k2, k3, k4⟩ := lowk 1 (by decide)
                  refine ⟨r, h1, h2, ?_, ?_, k4⟩
                  · rw [cc, if_neg (by rw [p1]; decide), if_pos e5]; exact k1
                  · rw [mm, if_neg (by rw [k2]; decide), if_pos e5]; exact k3
                · obtain ⟨r, h1, h2, k1, k2, k3, k4⟩ := lowk 0 (by decide)
                  refine ⟨r, h1, h2, ?_, ?_, k4⟩
                  · rw [cc, if_neg (by rw [p1]; decide), if_neg e5]; exact k1
                  · rw [mm, if_neg (by rw [k2]; decide), if_neg e5]; exact k3
            · refine ⟨-1, h, h, ?_, ?_, hI⟩
              · unfold f_X7_air
                rw [f_below, Option.bind_some, if_pos (lt4 hk).1, if_neg n1_0, f_upto, Option.bind_some, if_pos c2, if_neg n1_0, f_upto, Option.bind_some, if_pos c3, if_neg n1_0, f_upto, Option.bind_some, if_pos c4, if_neg n1_0, f_upto, Option.bind_some, if_pos c5, if_neg n1_0, f_upto, Option.bind_some, if_neg c6]; rfl
              · unfold f_X8_air
                rw [f_isPlace, Option.bind_some, if_pos (lt4 hk).2, if_neg n1_0, f_isMany, Option.bind_some, if_pos c2, if_neg n1_0, f_isMany, Option.bind_some, if_pos c3, if_neg n1_0, f_isMany, Option.bind_some, if_pos c4, if_neg n1_0, f_in, Option.bind_some, if_pos c5, if_neg n1_0, f_in, Option.bind_some, if_neg c6]; rfl
          · refine ⟨-1, h, h, ?_, ?_, hI⟩
            · unfold f_X7_air
              rw [f_below, Option.bind_some, if_pos (lt4 hk).1, if_neg n1_0, f_upto, Option.bind_some, if_pos c2, if_neg n1_0, f_upto, Option.bind_some, if_pos c3, if_neg n1_0, f_upto, Option.bind_some, if_pos c4, if_neg n1_0, f_upto, Option.bind_some, if_neg c5]; rfl
            · unfold f_X8_air
              rw [f_isPlace, Option.bind_some, if_pos (lt4 hk).2, if_neg n1_0, f_isMany, Option.bind_some, if_pos c2, if_neg n1_0, f_isMany, Option.bind_some, if_pos c3, if_neg n1_0, f_isMany, Option.bind_some, if_pos c4, if_neg n1_0, f_in, Option.bind_some, if_neg c5]; rfl
        · refine ⟨-1, h, h, ?_, ?_, hI⟩
          · unfold f_X7_air
            rw [f_below, Option.bind_some, if_pos (lt4 hk).1, if_neg n1_0, f_upto, Option.bind_some, if_pos c2, if_neg n1_0, f_upto, Option.bind_some, if_pos c3, if_neg n1_0, f_upto, Option.bind_some, if_neg c4]; rfl
          · unfold f_X8_air
            rw [f_isPlace, Option.bind_some, if_pos (lt4 hk).2, if_neg n1_0, f_isMany, Option.bind_some, if_pos c2, if_neg n1_0, f_isMany, Option.bind_some, if_pos c3, if_neg n1_0, f_isMany, Option.bind_some, if_neg c4]; rfl
      · refine ⟨-1, h, h, ?_, ?_, hI⟩
        · unfold f_X7_air
          rw [f_below, Option.bind_some, if_pos (lt4 hk).1, if_neg n1_0, f_upto, Option.bind_some, if_pos c2, if_neg n1_0, f_upto, Option.bind_some, if_neg c3]; rfl
        · unfold f_X8_air
          rw [f_isPlace, Option.bind_some, if_pos (lt4 hk).2, if_neg n1_0, f_isMany, Option.bind_some, if_pos c2, if_neg n1_0, f_isMany, Option.bind_some, if_neg c3]; rfl
    · refine ⟨-1, h, h, ?_, ?_, hI⟩
      · unfold f_X7_air
        rw [f_below, Option.bind_some, if_pos (lt4 hk).1, if_neg n1_0, f_upto, Option.bind_some, if_neg c2]; rfl
      · unfold f_X8_air
        rw [f_isPlace, Option.bind_some, if_pos (lt4 hk).2, if_neg n1_0, f_isMany, Option.bind_some, if_neg c2]; rfl
  · refine ⟨-1, h, h, ?_, ?_, hI⟩
    · unfold f_X7_air
      rw [f_below, Option.bind_some, if_neg (not_lt4 hb).1]; rfl
    · unfold f_X8_air
      rw [f_isPlace, Option.bind_some, if_neg (not_lt4 hb).2]; rfl
end INV
