section IX
variable {X : TT → Prop}
/-- cells that no relation reads -/
def Scr (i k : Nat) : Prop := (110 ≤ i ∧ i ≤ 145) ∨ i = 151 ∨ i = 158 ∨ i = 159 ∨ (162 ≤ i ∧ i ≤ 164) ∨ (i = 147 ∧ k ≠ 0 ∧ k ≠ 2)
/-- nothing but scratch and what is told has changed -/
def ScT (h h' : TT) : Prop := (∀ i k, ¬ Scr i k → ¬ (i = 0 ∧ k = 13) → ¬ (i = 147 ∧ k = 2) → h'.1 i k = h.1 i k) ∧ ∀ i k, ¬ (i = 147 ∧ k = 28) → h'.2 i k = h.2 i k
theorem ScT.rf (h : TT) : ScT h h := ⟨fun _ _ _ _ _ => rfl, fun _ _ _ => rfl⟩
theorem ScT.tr {a b c : TT} (h1 : ScT a b) (h2 : ScT b c) : ScT a c := ⟨fun i k x y z => (h2.1 i k x y z).trans (h1.1 i k x y z), fun i k x => (h2.2 i k x).trans (h1.2 i k x)⟩
theorem ScT.wr {h g : TT} (hs : ScT h g) {i k : Nat} {v : Int32} (hc : Scr i k ∨ (i = 0 ∧ k = 13) ∨ (i = 147 ∧ k = 2)) : ScT h (wr g i k v) := by
  refine ⟨fun a b x y z => ?_, hs.2⟩
  rw [wr_1, if_neg (fun q => ?_)]
  · exact hs.1 a b x y z
  · obtain ⟨rfl, rfl⟩ := q
    rcases hc with c | c | c
    · exact x c
    · exact y c
    · exact z c
theorem ScT.wrow {h g : TT} (hs : ScT h g) {i : Nat} {f : Nat → Int32} (hc : ∀ k, Scr i k) : ScT h (wrow g i f) := by
  refine ⟨fun a b x y z => ?_, hs.2⟩
  rw [wrow_1, if_neg (fun q => ?_)]
  · exact hs.1 a b x y z
  · subst q
    exact x (hc b)
theorem inv_gen (hX : FrX X) {h h' : TT} (hI : InvX X h) (hs : ScT h h') (ht : h'.1 0 13 = h'.1 147 2) : InvX X h' := by
  obtain ⟨h1, h2, h3, h4, h5, h6⟩ := hI
  obtain ⟨e, e2⟩ := hs
  have er : ∀ i, (∀ k, ¬ Scr i k) → i ≠ 0 → i ≠ 147 → h'.1 i = h.1 i := fun i a b c => funext fun k => e i k (a k) (fun q => b q.1) (fun q => c q.1)
  refine ⟨ht, ⟨?_, fun k hk => ?_⟩, ⟨?_, ?_⟩, R_rows_fr h4 (fun i hi => er i (fun k q => by unfold Scr at q; omega) (by omega) (by omega)), R_txt_fr h5 (fun i hi => er i (fun k q => by unfold Scr at q; omega) (by omega) (by omega)), hX _ _ h6 (fun i hi => er i (fun k q => by unfold Scr at q; unfold SX at hi; omega) (by unfold SX at hi; omega) (by unfold SX at hi; omega))⟩
  · rw [e 0 16 (fun q => by unfold Scr at q; omega) (by omega) (by omega), e 147 0 (fun q => by unfold Scr at q; omega) (by omega) (by omega)]
    exact h2.1
  · rw [e 146 k (fun q => by unfold Scr at q; omega) (by omega) (by omega), e 148 k (fun q => by unfold Scr at q; omega) (by omega) (by omega)]
    exact h2.2 k hk
  · rw [e2 0 14 (by omega), e2 147 3 (by omega)]
    exact h3.1
  · rw [e2 0 15 (by omega), e2 147 4 (by omega)]
    exact h3.2
theorem wr_wr {h : TT} {i k : Nat} {a b : Int32} : wr (wr h i k a) i k b = wr h i k b := by
  refine Prod.ext (funext fun x => funext fun y => ?_) rfl
  rw [wr_1, wr_1, wr_1]
  by_cases e : x = i ∧ y = k
  · rw [if_pos e, if_pos e]
  · rw [if_neg e, if_neg e, if_neg e]
theorem wr_id {h : TT} {i k : Nat} {a : Int32} (e : a = h.1 i k) : wr h i k a = h := by
  refine Prod.ext (funext fun x => funext fun y => ?_) rfl
  rw [wr_1]
  by_cases q : x = i ∧ y = k
  · rw [if_pos q, e, q.1, q.2]
  · rw [if_neg q]
/-- the days of a WALL: from day d on, k days at most -/
def dayT (x1 x2 x3 : Int32) : Nat → Int32 → Int32 → Nat → Int32 → Int32 × Int32
  | 0, _, _, _, sg => (60, sg)
  | k + 1, x4, x5, d, sg =>
    let y4 := x4 - (3 * x2 + x1 + (if nI d < 5 then 0 else 2))
    let y5 := x5 + (x1 + 1)
    let z4 := if x3 ≤ 0 then y4 else if nI d - nI d / x3 * x3 = 0 then y4 + (-5) else y4
    let z5 := if x3 ≤ 0 then y5 else if nI d - nI d / x3 * x3 = 0 then y5 - y5 / 2 else y5
    if z4 < 30 then (nI d - 1, sg) else if z5 ≤ 40 then dayT x1 x2 x3 k z4 z5 (d + 1) z5 else (nI d - 1, sg)
theorem day_X6 {x1 x2 x3 : Int32} : ∀ (k f d : Nat) (x4 x5 : Int32) (h : TT), d + k = 61 → k < f → f_X6_daysOf_15 f x1 x2 x3 x4 x5 (nI d) h = some ((dayT x1 x2 x3 k x4 x5 d (h.1 137 0)).1, wr h 137 0 (dayT x1 x2 x3 k x4 x5 d (h.1 137 0)).2) := by
  intro k
  induction k with
  | zero =>
    intro f d x4 x5 h hd hf
    obtain ⟨f, rfl⟩ : ∃ g, f = g + 1 := ⟨f - 1, by omega⟩
    have e0 : d = 61 := by omega
    subst e0
    rw [f_X6_daysOf_15, if_pos (by decide)]
    show some _ = some (60, wr h 137 0 (h.1 137 0))
    rw [wr_id rfl]
  | succ k ih =>
    intro f d x4 x5 h hd hf
    obtain ⟨f, rfl⟩ : ∃ g, f = g + 1 := ⟨f - 1, by omega⟩
    have h60 : ¬ (60 : Int32) < nI d := fun q => by
      have a := i32_lt.mp q
      rw [nI_toInt (by omega)] at a
      have e : (60 : Int32).toInt = 60 := rfl
      omega
    have hk : ∀ (y4 y5 : Int32) (g : TT), f_X6_daysOf_15 f x1 x2 x3 y4 y5 (nI d + 1) g = some ((dayT x1 x2 x3 k y4 y5 (d + 1) (g.1 137 0)).1, wr g 137 0 (dayT x1 x2 x3 k y4 y5 (d + 1) (g.1 137 0)).2) := fun y4 y5 g => by
      rw [show nI d + 1 = nI (d + 1) from nI_1 d]
      exact ih f (d + 1) y4 y5 g (by omega) (by omega)
    have h75 : ∀ (z4 z5 : Int32), f_X6_daysOf_75 (f_X6_daysOf_15 f) x1 x2 x3 z4 z5 (nI d) h = some ((if z4 < 30 then (nI d - 1, h.1 137 0) else if z5 ≤ 40 then dayT x1 x2 x3 k z4 z5 (d + 1) z5 else (nI d - 1, h.1 137 0)).1, wr h 137 0 (if z4 < 30 then (nI d - 1, h.1 137 0) else if z5 ≤ 40 then dayT x1 x2 x3 k z4 z5 (d + 1) z5 else (nI d - 1, h.1 137 0)).2) := fun z4 z5 => by
      unfold f_X6_daysOf_75 f_X6_daysOf_89
      simp only [nm]
      by_cases c1 : z4 < 30
      · simp only [if_pos c1]
        rw [wr_id rfl]
      · simp only [if_neg c1]
        by_cases c2 : z5 ≤ 40
        · simp only [if_pos c2]
          rw [hk, wr_1, if_pos ⟨rfl, rfl⟩, wr_wr]
        · simp only [if_neg c2]
          rw [wr_id rfl]
    have h40 : ∀ (t : Int32), f_X6_daysOf_40 (f_X6_daysOf_15 f) x1 x2 x3 x5 (nI d) t (3 * x2 + x1) x4 h = f_X6_daysOf_75 (f_X6_daysOf_15 f) x1 x2 x3 (if x3 ≤ 0 then x4 - (3 * x2 + x1 + t) else if nI d - nI d / x3 * x3 = 0 then x4 - (3 * x2 + x1 + t) + (-5) else x4 - (3 * x2 + x1 + t)) (if x3 ≤ 0 then x5 + (x1 + 1) else if nI d - nI d / x3 * x3 = 0 then x5 + (x1 + 1) - (x5 + (x1 + 1)) / 2 else x5 + (x1 + 1)) (nI d) h := fun t => by
      unfold f_X6_daysOf_40
      simp only [nm]
      by_cases c1 : x3 ≤ 0
      · simp only [if_pos c1]
      · have c0 : ¬ x3 = 0 := fun q => c1 (by rw [q]; decide)
        simp only [if_neg c1, if_neg c0]
        by_cases c2 : nI d - nI d / x3 * x3 = 0
        · simp only [if_pos c2]
        · simp only [if_neg c2]
    rw [f_X6_daysOf_15, if_neg h60, dayT]
    by_cases c5 : nI d < 5
    · rw [if_pos c5, h40, h75]
      simp only [if_pos c5]
    · rw [if_neg c5, h40, h75]
      simp only [if_neg c5]
theorem days_X6 (h : TT) (x1 x2 x3 : Int32) : f_X6_daysOf h x1 x2 x3 = some ((dayT x1 x2 x3 60 100 0 1 0).1, wr h 137 0 (dayT x1 x2 x3 60 100 0 1 0).2) := by
  unfold f_X6_daysOf
  simp only [nm]
  rw [show (1 : Int32) = nI 1 from rfl, day_X6 60 KF 1 100 0 _ (by omega) (by decide), wr_1, if_pos ⟨rfl, rfl⟩, wr_wr]
theorem day_X8 {x1 x2 x3 : Int32} : ∀ (k f d : Nat) (x4 x5 : Int32) (h : TT), d + k = 61 → k < f → f_X8_daysOf_15 f x1 x2 x3 x4 x5 (nI d) h = some ((dayT x1 x2 x3 k x4 x5 d (h.1 147 27)).1, wr h 147 27 (dayT x1 x2 x3 k x4 x5 d (h.1 147 27)).2) := by
  intro k
  induction k with
  | zero =>
    intro f d x4 x5 h hd hf
    obtain ⟨f, rfl⟩ : ∃ g, f = g + 1 := ⟨f - 1, by omega⟩
    have e0 : d = 61 := by omega
    subst e0
    rw [f_X8_daysOf_15, if_pos (by decide)]
    show some _ = some (60, wr h 147 27 (h.1 147 27))
    rw [wr_id rfl]
  | succ k ih =>
    intro f d x4 x5 h hd hf
    obtain ⟨f, rfl⟩ : ∃ g, f = g + 1 := ⟨f - 1, by omega⟩
    have h60 : ¬ (60 : Int32) < nI d := fun q => by
      have a := i32_lt.mp q
      rw [nI_toInt (by omega)] at a
      have e : (60 : Int32).toInt = 60 := rfl
      omega
    have hk : ∀ (y4 y5 : Int32) (g : TT), f_X8_daysOf_15 f x1 x2 x3 y4 y5 (nI d + 1) g = some ((dayT x1 x2 x3 k y4 y5 (d + 1) (g.1 147 27)).1, wr g 147 27 (dayT x1 x2 x3 k y4 y5 (d + 1) (g.1 147 27)).2) := fun y4 y5 g => by
      rw [show nI d + 1 = nI (d + 1) from nI_1 d]
      exact ih f (d + 1) y4 y5 g (by omega) (by omega)
    have h75 : ∀ (z4 z5 : Int32), f_X8_daysOf_75 (f_X8_daysOf_15 f) x1 x2 x3 z4 z5 (nI d) h = some ((if z4 < 30 then (nI d - 1, h.1 147 27) else if z5 ≤ 40 then dayT x1 x2 x3 k z4 z5 (d + 1) z5 else (nI d - 1, h.1 147 27)).1, wr h 147 27 (if z4 < 30 then (nI d - 1, h.1 147 27) else if z5 ≤ 40 then dayT x1 x2 x3 k z4 z5 (d + 1) z5 else (nI d - 1, h.1 147 27)).2) := fun z4 z5 => by
      unfold f_X8_daysOf_75 f_X8_daysOf_89
      simp only [nm]
      by_cases c1 : z4 < 30
      · simp only [if_pos c1]
        rw [wr_id rfl]
      · simp only [if_neg c1]
        by_cases c2 : z5 ≤ 40
        · simp only [if_pos c2]
          rw [hk, wr_1, if_pos ⟨rfl, rfl⟩, wr_wr]
        · simp only [if_neg c2]
          rw [wr_id rfl]
    have h40 : ∀ (t : Int32), f_X8_daysOf_40 (f_X8_daysOf_15 f) x1 x2 x3 x5 (nI d) t (3 * x2 + x1) x4 h = f_X8_daysOf_75 (f_X8_daysOf_15 f) x1 x2 x3 (if x3 ≤ 0 then x4 - (3 * x2 + x1 + t) else if nI d - nI d / x3 * x3 = 0 then x4 - (3 * x2 + x1 + t) + (-5) else x4 - (3 * x2 + x1 + t)) (if x3 ≤ 0 then x5 + (x1 + 1) else if nI d - nI d / x3 * x3 = 0 then x5 + (x1 + 1) - (x5 + (x1 + 1)) / 2 else x5 + (x1 + 1)) (nI d) h := fun t => by
      unfold f_X8_daysOf_40
      simp only [nm]
      by_cases c1 : x3 ≤ 0
      · simp only [if_pos c1]
      · have c0 : ¬ x3 = 0 := fun q => c1 (by rw [q]; decide)
        simp only [if_neg c1, if_neg c0]
        by_cases c2 : nI d - nI d / x3 * x3 = 0
        · simp only [if_pos c2]
        · simp only [if_neg c2]
    rw [f_X8_daysOf_15, if_neg h60, dayT]
    by_cases c5 : nI d < 5
    · rw [if_pos c5, h40, h75]
      simp only [if_pos c5]
    · rw [if_neg c5, h40, h75]
      simp only [if_neg c5]
theorem days_X8 (h : TT) (x1 x2 x3 : Int32) : f_X8_daysOf h x1 x2 x3 = some ((dayT x1 x2 x3 60 100 0 1 0).1, wr h 147 27 (dayT x1 x2 x3 60 100 0 1 0).2) := by
  unfold f_X8_daysOf
  simp only [nm]
  rw [show (1 : Int32) = nI 1 from rfl, day_X8 60 KF 1 100 0 _ (by omega) (by decide), wr_1, if_pos ⟨rfl, rfl⟩, wr_wr]
theorem c_upto9 (h : TT) (x : Int32) : f_X7_isUpTo h x 9 = f_X8_isMany h x := by rw [f_upto, f_isMany]
theorem st_lasts (hX : FrX X) : ST_lasts (InvX X) := by
  intro h hI x1 x2 x3
  by_cases c1 : 0 ≤ x1 ∧ x1 ≤ 9
  · by_cases c2 : 0 ≤ x2 ∧ x2 ≤ 9
    · by_cases c3 : 0 ≤ x3 ∧ x3 ≤ 9
      · have a1 : f_X7_lasts h x1 x2 x3 = some ((dayT x1 x2 x3 60 100 0 1 0).1, wr (wr h 137 0 (dayT x1 x2 x3 60 100 0 1 0).2) 0 13 (dayT x1 x2 x3 60 100 0 1 0).2) := by
          unfold f_X7_lasts
          simp only [f_upto, Option.bind_some, if_pos c1, if_pos c2, if_pos c3, days_X6, nm]
          rw [if_neg (by decide), if_neg (by decide), if_neg (by decide), wr_1, if_pos ⟨rfl, rfl⟩]
        have a2 : ∀ h : TT, f_X8_lasts h x1 x2 x3 = some ((dayT x1 x2 x3 60 100 0 1 0).1, wr (wr h 147 27 (dayT x1 x2 x3 60 100 0 1 0).2) 147 2 (dayT x1 x2 x3 60 100 0 1 0).2) := fun h => by
          unfold f_X8_lasts
          simp only [f_isMany, f_in, Option.bind_some, if_pos c1, if_pos c2, if_pos c3, days_X8, nm, f_tellsBy]
          rw [if_neg (by decide), if_neg (by decide), if_neg (by decide), wr_1, if_pos ⟨rfl, rfl⟩]
        refine ⟨_, _, _, a1, a2 _, inv_gen hX hI (ScT.wr (ScT.wr (ScT.wr (ScT.wr (ScT.rf h) ?_) ?_) ?_) ?_) ?_⟩
        · left; unfold Scr; omega
        · right; left; exact ⟨rfl, rfl⟩
        · left; unfold Scr; omega
        · right; right; exact ⟨rfl, rfl⟩
        · simp [wr_1]
      · refine ⟨-1, h, h, ?_, ?_, hI⟩
        · unfold f_X7_lasts
          simp only [f_upto, Option.bind_some, if_pos c1, if_pos c2, if_neg c3]
          rw [if_neg (by decide), if_neg (by decide), if_pos trivial]
        · unfold f_X8_lasts
          simp only [f_isMany, f_in, Option.bind_some, if_pos c1, if_pos c2, if_neg c3]
          rw [if_neg (by decide), if_neg (by decide), if_pos trivial]
    · refine ⟨-1, h, h, ?_, ?_, hI⟩
      · unfold f_X7_lasts
        simp only [f_upto, Option.bind_some, if_pos c1, if_neg c2]
        rw [if_neg (by decide), if_pos trivial]
      · unfold f_X8_lasts
        simp only [f_isMany, f_in, Option.bind_some, if_pos c1, if_neg c2]
        rw [if_neg (by decide), if_pos trivial]
  · refine ⟨-1, h, h, ?_, ?_, hI⟩
    · unfold f_X7_lasts
      simp only [f_upto, Option.bind_some, if_neg c1]
      rw [if_pos trivial]
    · unfold f_X8_lasts
      simp only [f_isMany, f_in, Option.bind_some, if_neg c1]
      rw [if_pos trivial]
end IX
