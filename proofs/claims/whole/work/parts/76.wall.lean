section INV
variable {h h' g s : TT}
theorem wr_ww {h : TT} {i k : Nat} {a b : Int32} : wr (wr h i k a) i k b = wr h i k b := by
  refine Prod.ext (funext fun x => funext fun y => ?_) rfl
  rw [wr_1, wr_1, wr_1]
  by_cases e : x = i ∧ y = k
  · rw [if_pos e, if_pos e]
  · rw [if_neg e, if_neg e, if_neg e]
theorem wr_id {h : TT} {i k : Nat} {a : Int32} (e : h.1 i k = a) : wr h i k a = h := by
  refine Prod.ext (funext fun x => funext fun y => ?_) rfl
  rw [wr_1]
  by_cases q : x = i ∧ y = k
  · rw [if_pos q, ← e, q.1, q.2]
  · rw [if_neg q]
theorem d6a {k15 : Int32 → Int32 → Int32 → Int32 → Int32 → Int32 → TT → Option (Int32 × TT)} {x1 x2 x3 x5 x6 a b e : Int32} {h : TT} (c1 : x3 ≤ 0) : f_X6_daysOf_40 k15 x1 x2 x3 x5 x6 a b e h = f_X6_daysOf_75 k15 x1 x2 x3 (e - (b + a)) (x5 + (x1 + 1)) x6 h := by
  unfold f_X6_daysOf_40
  rw [nm_eq, nm_eq, if_pos c1]
theorem d6b {k15 : Int32 → Int32 → Int32 → Int32 → Int32 → Int32 → TT → Option (Int32 × TT)} {x1 x2 x3 x5 x6 a b e : Int32} {h : TT} (c1 : ¬ x3 ≤ 0) (c0 : ¬ x3 = 0) (c2 : x6 - x6 / x3 * x3 = 0) : f_X6_daysOf_40 k15 x1 x2 x3 x5 x6 a b e h = f_X6_daysOf_75 k15 x1 x2 x3 (e - (b + a) + -5) (x5 + (x1 + 1) - (x5 + (x1 + 1)) / 2) x6 h := by
  unfold f_X6_daysOf_40
  rw [nm_eq, nm_eq, if_neg c1, if_neg c0, if_pos c2, nm_eq]
theorem d6c {k15 : Int32 → Int32 → Int32 → Int32 → Int32 → Int32 → TT → Option (Int32 × TT)} {x1 x2 x3 x5 x6 a b e : Int32} {h : TT} (c1 : ¬ x3 ≤ 0) (c0 : ¬ x3 = 0) (c2 : ¬ x6 - x6 / x3 * x3 = 0) : f_X6_daysOf_40 k15 x1 x2 x3 x5 x6 a b e h = f_X6_daysOf_75 k15 x1 x2 x3 (e - (b + a)) (x5 + (x1 + 1)) x6 h := by
  unfold f_X6_daysOf_40
  rw [nm_eq, nm_eq, if_neg c1, if_neg c0, if_neg c2]
theorem d8a {k15 : Int32 → Int32 → Int32 → Int32 → Int32 → Int32 → TT → Option (Int32 × TT)} {x1 x2 x3 x5 x6 a b e : Int32} {h : TT} (c1 : x3 ≤ 0) : f_X8_daysOf_40 k15 x1 x2 x3 x5 x6 a b e h = f_X8_daysOf_75 k15 x1 x2 x3 (e - (b + a)) (x5 + (x1 + 1)) x6 h := by
  unfold f_X8_daysOf_40
  rw [nm_eq, nm_eq, if_pos c1]
theorem d8b {k15 : Int32 → Int32 → Int32 → Int32 → Int32 → Int32 → TT → Option (Int32 × TT)} {x1 x2 x3 x5 x6 a b e : Int32} {h : TT} (c1 : ¬ x3 ≤ 0) (c0 : ¬ x3 = 0) (c2 : x6 - x6 / x3 * x3 = 0) : f_X8_daysOf_40 k15 x1 x2 x3 x5 x6 a b e h = f_X8_daysOf_75 k15 x1 x2 x3 (e - (b + a) + -5) (x5 + (x1 + 1) - (x5 + (x1 + 1)) / 2) x6 h := by
  unfold f_X8_daysOf_40
  rw [nm_eq, nm_eq, if_neg c1, if_neg c0, if_pos c2, nm_eq]
theorem d8c {k15 : Int32 → Int32 → Int32 → Int32 → Int32 → Int32 → TT → Option (Int32 × TT)} {x1 x2 x3 x5 x6 a b e : Int32} {h : TT} (c1 : ¬ x3 ≤ 0) (c0 : ¬ x3 = 0) (c2 : ¬ x6 - x6 / x3 * x3 = 0) : f_X8_daysOf_40 k15 x1 x2 x3 x5 x6 a b e h = f_X8_daysOf_75 k15 x1 x2 x3 (e - (b + a)) (x5 + (x1 + 1)) x6 h := by
  unfold f_X8_daysOf_40
  rw [nm_eq, nm_eq, if_neg c1, if_neg c0, if_neg c2]
theorem days15 {x1 x2 x3 : Int32} : ∀ (k f d : Nat) (x4 x5 v : Int32), d + k = 61 → k < f → ∃ r sg, ∀ h h' : TT, h.1 137 0 = v → h'.1 147 27 = v → f_X6_daysOf_15 f x1 x2 x3 x4 x5 (nI d) h = some (r, wr h 137 0 sg) ∧ f_X8_daysOf_15 f x1 x2 x3 x4 x5 (nI d) h' = some (r, wr h' 147 27 sg) := by
  intro k
  induction k with
  | zero =>
    intro f d x4 x5 v hd hf
    obtain ⟨f, rfl⟩ : ∃ g, f = g + 1 := ⟨f - 1, by omega⟩
    obtain rfl : d = 61 := by omega
    refine ⟨60, v, fun h h' e1 e2 => ⟨?_, ?_⟩⟩
    · rw [f_X6_daysOf_15, if_pos (by decide), wr_id e1]
    · rw [f_X8_daysOf_15, if_pos (by decide), wr_id e2]
  | succ k ih =>
    intro f d x4 x5 v hd hf
    obtain ⟨f, rfl⟩ : ∃ g, f = g + 1 := ⟨f - 1, by omega⟩
    have h75 : ∀ z4 z5 : Int32, ∃ r sg, ∀ h h' : TT, h.1 137 0 = v → h'.1 147 27 = v → f_X6_daysOf_75 (f_X6_daysOf_15 f) x1 x2 x3 z4 z5 (nI d) h = some (r, wr h 137 0 sg) ∧ f_X8_daysOf_75 (f_X8_daysOf_15 f) x1 x2 x3 z4 z5 (nI d) h' = some (r, wr h' 147 27 sg) := fun z4 z5 => by
      unfold f_X6_daysOf_75 f_X8_daysOf_75 f_X6_daysOf_89 f_X8_daysOf_89
      by_cases c1 : z4 < 30
      · refine ⟨nI d - 1, v, fun h h' e1 e2 => ⟨?_, ?_⟩⟩
        · rw [if_pos c1, wr_id e1]
        · rw [if_pos c1, wr_id e2]
      · by_cases c2 : z5 ≤ 40
        · obtain ⟨r, sg, q⟩ := ih f (d + 1) z4 z5 z5 (by omega) (by omega)
          refine ⟨r, sg, fun h h' e1 e2 => ?_⟩
          obtain ⟨q1, q2⟩ := q (wr h 137 0 z5) (wr h' 147 27 z5) (by rw [wr_1, if_pos ⟨rfl, rfl⟩]) (by rw [wr_1, if_pos ⟨rfl, rfl⟩])
          rw [if_neg c1, if_neg c1, if_pos c2, if_pos c2, nm_eq, nm_eq, nI_1, q1, q2, wr_ww, wr_ww]
          exact ⟨rfl, rfl⟩
        · refine ⟨nI d - 1, v, fun h h' e1 e2 => ⟨?_, ?_⟩⟩
          · rw [if_neg c1, if_neg c2, wr_id e1]
          · rw [if_neg c1, if_neg c2, wr_id e2]
    have h40 : ∀ t : Int32, ∃ r sg, ∀ h h' : TT, h.1 137 0 = v → h'.1 147 27 = v → f_X6_daysOf_40 (f_X6_daysOf_15 f) x1 x2 x3 x5 (nI d) t (3 * x2 + x1) x4 h = some (r, wr h 137 0 sg) ∧ f_X8_daysOf_40 (f_X8_daysOf_15 f) x1 x2 x3 x5 (nI d) t (3 * x2 + x1) x4 h' = some (r, wr h' 147 27 sg) := fun t => by
      by_cases c1 : x3 ≤ 0
      · obtain ⟨r, sg, q⟩ := h75 (x4 - (3 * x2 + x1 + t)) (x5 + (x1 + 1))
        refine ⟨r, sg, fun h h' e1 e2 => ?_⟩
        rw [d6a c1, d8a c1]
        exact q h h' e1 e2
      · have c0 : ¬ x3 = 0 := fun z => c1 (by rw [z]; decide)
        by_cases c2 : nI d - nI d / x3 * x3 = 0
        · obtain ⟨r, sg, q⟩ := h75 (x4 - (3 * x2 + x1 + t) + -5) (x5 + (x1 + 1) - (x5 + (x1 + 1)) / 2)
          refine ⟨r, sg, fun h h' e1 e2 => ?_⟩
          rw [d6b c1 c0 c2, d8b c1 c0 c2]
          exact q h h' e1 e2
        · obtain ⟨r, sg, q⟩ := h75 (x4 - (3 * x2 + x1 + t)) (x5 + (x1 + 1))
          refine ⟨r, sg, fun h h' e1 e2 => ?_⟩
          rw [d6c c1 c0 c2, d8c c1 c0 c2]
          exact q h h' e1 e2
    have n60 : ¬ (60 : Int32) < nI d := nI_nlt (a := 60) (by omega) (by omega)
    by_cases c5 : nI d < 5
    · obtain ⟨r, sg, q⟩ := h40 0
      refine ⟨r, sg, fun h h' e1 e2 => ?_⟩
      rw [f_X6_daysOf_15, f_X8_daysOf_15, if_neg n60, if_neg n60, if_pos c5, if_pos c5]
      exact q h h' e1 e2
    · obtain ⟨r, sg, q⟩ := h40 2
      refine ⟨r, sg, fun h h' e1 e2 => ?_⟩
      rw [f_X6_daysOf_15, f_X8_daysOf_15, if_neg n60, if_neg n60, if_neg c5, if_neg c5]
      exact q h h' e1 e2
theorem days (x1 x2 x3 : Int32) : ∃ r sg, ∀ h h' : TT, f_X6_daysOf h x1 x2 x3 = some (r, wr h 137 0 sg) ∧ f_X8_daysOf h' x1 x2 x3 = some (r, wr h' 147 27 sg) := by
  obtain ⟨r, sg, q⟩ := days15 (x1 := x1) (x2 := x2) (x3 := x3) 60 KF 1 100 0 0 (by omega) (by decide)
  refine ⟨r, sg, fun h h' => ?_⟩
  obtain ⟨q1, q2⟩ := q (wr h 137 0 0) (wr h' 147 27 0) (by rw [wr_1, if_pos ⟨rfl, rfl⟩]) (by rw [wr_1, if_pos ⟨rfl, rfl⟩])
  rw [wr_ww] at q1 q2
  unfold f_X6_daysOf f_X8_daysOf
  rw [nm_eq, nm_eq, show (1 : Int32) = nI 1 from rfl]
  exact ⟨q1, q2⟩
theorem st_lasts : ST_lasts INV := by
  intro h hI x1 x2 x3
  by_cases c1 : 0 ≤ x1 ∧ x1 ≤ 9
  · by_cases c2 : 0 ≤ x2 ∧ x2 ≤ 9
    · by_cases c3 : 0 ≤ x3 ∧ x3 ≤ 9
      · obtain ⟨r, sg, q⟩ := days x1 x2 x3
        refine ⟨r, wr (wr h 137 0 sg) 0 13 sg, wr (wr (wr (wr h 137 0 sg) 0 13 sg) 147 27 sg) 147 2 sg, ?_, ?_, ?_⟩
        · unfold f_X7_lasts
          rw [f_upto, Option.bind_some, if_pos c1, if_neg n1_0, f_upto, Option.bind_some, if_pos c2, if_neg n1_0, f_upto, Option.bind_some, if_pos c3, if_neg n1_0, (q h h).1, Option.bind_some, nm_eq, nm_eq, wr_1, if_pos ⟨rfl, rfl⟩]
        · unfold f_X8_lasts
          rw [f_isMany, Option.bind_some, if_pos c1, if_neg n1_0, f_isMany, Option.bind_some, if_pos c2, if_neg n1_0, f_in, Option.bind_some, if_pos c3, if_neg n1_0, (q h _).2, Option.bind_some, nm_eq, wr_1, if_pos ⟨rfl, rfl⟩]
          rfl
        · refine inv_gen XX_fr hI (sct_a (sct_w (sct_t (sct_w (ScT.rf h) ?_)) ?_)) ?_
          · left; unfold Scr; omega
          · left; unfold Scr; omega
          · rw [wr_row (by omega), wr_row (by omega), wr_1, if_pos ⟨rfl, rfl⟩, wr_1, if_pos ⟨rfl, rfl⟩]
      · refine ⟨-1, h, h, ?_, ?_, hI⟩
        · unfold f_X7_lasts
          rw [f_upto, Option.bind_some, if_pos c1, if_neg n1_0, f_upto, Option.bind_some, if_pos c2, if_neg n1_0, f_upto, Option.bind_some, if_neg c3]; rfl
        · unfold f_X8_lasts
          rw [f_isMany, Option.bind_some, if_pos c1, if_neg n1_0, f_isMany, Option.bind_some, if_pos c2, if_neg n1_0, f_in, Option.bind_some, if_neg c3]; rfl
    · refine ⟨-1, h, h, ?_, ?_, hI⟩
      · unfold f_X7_lasts
        rw [f_upto, Option.bind_some, if_pos c1, if_neg n1_0, f_upto, Option.bind_some, if_neg c2]; rfl
      · unfold f_X8_lasts
        rw [f_isMany, Option.bind_some, if_pos c1, if_neg n1_0, f_isMany, Option.bind_some, if_neg c2]; rfl
  · refine ⟨-1, h, h, ?_, ?_, hI⟩
    · unfold f_X7_lasts
      rw [f_upto, Option.bind_some, if_neg c1]; rfl
    · unfold f_X8_lasts
      rw [f_isMany, Option.bind_some, if_neg c1]; rfl
theorem scr28 {x1 x2 : Int32} : ∀ (d f t : Nat) (x3 x4 : Int32), t + d = 10 → d < f → ∃ b l, ∀ h h' : TT, (∃ u, f_X7_scrape_28 f x1 x2 x3 x4 (nI t) h = some (b, wr (wr h 137 0 u) 0 13 l)) ∧ ∃ u, f_X8_scrape_24 f x1 x2 x3 x4 (nI t) h' = some (b, wr (wr h' 147 27 u) 147 2 l) := by
  intro d
  induction d with
  | zero =>
    intro f t x3 x4 ht hf
    obtain ⟨f, rfl⟩ : ∃ g, f = g + 1 := ⟨f - 1, by omega⟩
    obtain rfl : t = 10 := by omega
    refine ⟨x3, x4, fun h h' => ⟨⟨h.1 137 0, ?_⟩, ⟨h'.1 147 27, ?_⟩⟩⟩
    · rw [f_X7_scrape_28, if_pos (by decide), wr_id rfl]
      rfl
    · rw [f_X8_scrape_24, if_pos (by decide), wr_id rfl]
      rfl
  | succ d ih =>
    intro f t x3 x4 ht hf
    obtain ⟨f, rfl⟩ : ∃ g, f = g + 1 := ⟨f - 1, by omega⟩
    obtain ⟨r, sg, q⟩ := days x1 x2 (nI t)
    have n9 : ¬ (9 : Int32) < nI t := nI_nlt (a := 9) (by omega) (by omega)
    by_cases e : r ≤ x4
    · obtain ⟨b, l, z⟩ := ih f (t + 1) x3 x4 (by omega) (by omega)
      refine ⟨b, l, fun h h' => ?_⟩
      obtain ⟨⟨u1, z1⟩, u2, z2⟩ := z (wr h 137 0 sg) (wr h' 147 27 sg)
      have im : imax x4 r = x4 := if_neg (fun y => by have a := i32_lt.mp y; have b := i32_le.mp e; omega)
      refine ⟨⟨u1, ?_⟩, u2, ?_⟩
      · rw [f_X7_scrape_28, if_neg n9, (q h h).1, Option.bind_some, nm_eq, if_pos e]
        unfold f_X7_scrape_62
        rw [nI_1, z1, wr_ww]
      · rw [f_X8_scrape_24, if_neg n9, (q h h').2, Option.bind_some, nm_eq, if_pos e]
        unfold f_X8_scrape_54
        rw [grt, Option.bind_some, im, nI_1, z2, wr_ww]
    · obtain ⟨b, l, z⟩ := ih f (t + 1) (nI t) r (by omega) (by omega)
      refine ⟨b, l, fun h h' => ?_⟩
      obtain ⟨⟨u1, z1⟩, u2, z2⟩ := z (wr h 137 0 sg) (wr h' 147 27 sg)
      have im : imax x4 r = r := if_pos (by rw [i32_lt]; rw [i32_le] at e; omega)
      refine ⟨⟨u1, ?_⟩, u2, ?_⟩
      · rw [f_X7_scrape_28, if_neg n9, (q h h).1, Option.bind_some, nm_eq, if_neg e]
        unfold f_X7_scrape_62
        rw [nI_1, z1, wr_ww]
      · rw [f_X8_scrape_24, if_neg n9, (q h h').2, Option.bind_some, nm_eq, if_neg e]
        unfold f_X8_scrape_54
        rw [grt, Option.bind_some, im, nI_1, z2, wr_ww]
theorem st_scrape : ST_scrape INV := by
  intro h hI x1 x2
  by_cases c1 : 0 ≤ x1 ∧ x1 ≤ 9
  · by_cases c2 : 0 ≤ x2 ∧ x2 ≤ 9
    · obtain ⟨b, l, q⟩ := scr28 (x1 := x1) (x2 := x2) 10 KF 0 (nI 0) (-1) (by omega) (by decide)
      obtain ⟨⟨u1, q1⟩, -⟩ := q h h
      obtain ⟨-, u2, q2⟩ := q h (wr (wr h 137 0 u1) 0 13 l)
      refine ⟨b, wr (wr h 137 0 u1) 0 13 l, wr (wr (wr (wr h 137 0 u1) 0 13 l) 147 27 u2) 147 2 l, ?_, ?_, ?_⟩
      · unfold f_X7_scrape
        rw [f_upto, Option.bind_some, if_pos c1, if_neg n1_0, f_upto, Option.bind_some, if_pos c2, if_neg n1_0, show (0 : Int32) = nI 0 from rfl]
        exact q1
      · unfold f_X8_scrape
        rw [f_isMany, Option.bind_some, if_pos c1, if_neg n1_0, f_isMany, Option.bind_some, if_pos c2, if_neg n1_0, show (0 : Int32) = nI 0 from rfl]
        exact q2
      · refine inv_gen XX_fr hI (sct_a (sct_w (sct_t (sct_w (ScT.rf h) ?_)) ?_)) ?_
        · left; unfold Scr; omega
        · left; unfold Scr; omega
        · rw [wr_row (by omega), wr_row (by omega), wr_1, if_pos ⟨rfl, rfl⟩, wr_1, if_pos ⟨rfl, rfl⟩]
    · refine ⟨-1, h, h, ?_, ?_, hI⟩
      · unfold f_X7_scrape
        rw [f_upto, Option.bind_some, if_pos c1, if_neg n1_0, f_upto, Option.bind_some, if_neg c2]; rfl
      · unfold f_X8_scrape
        rw [f_isMany, Option.bind_some, if_pos c1, if_neg n1_0, f_isMany, Option.bind_some, if_neg c2]; rfl
  · refine ⟨-1, h, h, ?_, ?_, hI⟩
    · unfold f_X7_scrape
      rw [f_upto, Option.bind_some, if_neg c1]; rfl
    · unfold f_X8_scrape
      rw [f_isMany, Option.bind_some, if_neg c1]; rfl
end INV
