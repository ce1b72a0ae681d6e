/-! ===== the invariant: SNOWS, PLANS, HOUSES of both ===== -/
/-- cells that no relation reads -/
def Scr (i k : Nat) : Prop := (110 ≤ i ∧ i ≤ 145) ∨ i = 151 ∨ i = 158 ∨ i = 159 ∨ (162 ≤ i ∧ i ≤ 164) ∨ (i = 147 ∧ k ≠ 0 ∧ k ≠ 2) ∨ (i = 161 ∧ 608 ≤ k)
/-- nothing but scratch and what is told has changed -/
def ScT (h h' : TT) : Prop := (∀ i k, ¬ Scr i k → ¬ (i = 0 ∧ k = 13) → ¬ (i = 147 ∧ k = 2) → h'.1 i k = h.1 i k) ∧ ∀ i k, ¬ (i = 147 ∧ k = 28) → h'.2 i k = h.2 i k
def FrY (X : TT → Prop) : Prop := ∀ h h', X h → (∀ i k, SX i → ¬ (i = 161 ∧ 608 ≤ k) → h'.1 i k = h.1 i k) → X h'
theorem FrY.frx {X : TT → Prop} (hX : FrY X) : FrX X := fun h h' hx e => hX h h' hx (fun i k hi _ => by rw [e i hi])
theorem ScT.rf (h : TT) : ScT h h := ⟨fun _ _ _ _ _ => rfl, fun _ _ _ => rfl⟩
theorem ScT.tr {a b c : TT} (h1 : ScT a b) (h2 : ScT b c) : ScT a c := ⟨fun i k x y z => (h2.1 i k x y z).trans (h1.1 i k x y z), fun i k x => (h2.2 i k x).trans (h1.2 i k x)⟩
theorem sct_w {h g : TT} (hs : ScT h g) {i k : Nat} {v : Int32} (hc : Scr i k ∨ (i = 0 ∧ k = 13) ∨ (i = 147 ∧ k = 2)) : ScT h (wr g i k v) := by
  refine ⟨fun a b x y z => ?_, hs.2⟩
  rw [wr_1, if_neg (fun q => ?_)]
  · exact hs.1 a b x y z
  · obtain ⟨rfl, rfl⟩ := q
    rcases hc with c | c | c
    · exact x c
    · exact y c
    · exact z c
theorem sct_r {h g : TT} (hs : ScT h g) {i : Nat} {f : Nat → Int32} (hc : ∀ k, Scr i k) : ScT h (wrow g i f) := by
  refine ⟨fun a b x y z => ?_, hs.2⟩
  rw [wrow_1, if_neg (fun q => ?_)]
  · exact hs.1 a b x y z
  · subst q
    exact x (hc b)
theorem sct_B {h g : TT} (hs : ScT h g) {B : Nat → Nat → Int32} : ScT h (setB g 110 B) := by
  refine ⟨fun a b x y z => ?_, hs.2⟩
  rw [sb_o (by unfold Scr at x; omega)]
  exact hs.1 a b x y z
theorem sct_G {h g : TT} (hs : ScT h g) {f : Nat → Int32} : ScT h (setG g 608 f) := by
  refine ⟨fun a b x y z => ?_, hs.2⟩
  by_cases e : a = 161
  · subst e
    have : ¬ 608 ≤ b := fun q => x (by unfold Scr; omega)
    show (wrow g 161 _).1 161 b = _
    rw [wrow_1, if_pos rfl, if_neg (by omega)]
    exact hs.1 _ b x y z
  · rw [setG_o e]
    exact hs.1 a b x y z
theorem inv_gen {X : TT → Prop} (hX : FrY X) {h h' : TT} (hI : InvX X h) (hs : ScT h h') (ht : h'.1 0 13 = h'.1 147 2) : InvX X h' := by
  obtain ⟨h1, h2, h3, h4, h5, h6⟩ := hI
  obtain ⟨e, e2⟩ := hs
  have er : ∀ i, (∀ k, ¬ Scr i k) → i ≠ 0 → i ≠ 147 → h'.1 i = h.1 i := fun i a b c => funext fun k => e i k (a k) (fun q => b q.1) (fun q => c q.1)
  refine ⟨ht, ⟨?_, fun k hk => ?_⟩, ⟨?_, ?_⟩, R_rows_fr h4 (fun i hi => er i (fun k q => by unfold Scr at q; omega) (by omega) (by omega)), R_txt_fr h5 (fun i hi => er i (fun k q => by unfold Scr at q; omega) (by omega) (by omega)), hX _ _ h6 (fun i k hi hk => e i k (fun q => by unfold Scr at q; unfold SX at hi; omega) (by unfold SX at hi; omega) (by unfold SX at hi; omega))⟩
  · rw [e 0 16 (fun q => by unfold Scr at q; omega) (by omega) (by omega), e 147 0 (fun q => by unfold Scr at q; omega) (by omega) (by omega)]
    exact h2.1
  · rw [e 146 k (fun q => by unfold Scr at q; omega) (by omega) (by omega), e 148 k (fun q => by unfold Scr at q; omega) (by omega) (by omega)]
    exact h2.2 k hk
  · rw [e2 0 14 (by omega), e2 147 3 (by omega)]
    exact h3.1
  · rw [e2 0 15 (by omega), e2 147 4 (by omega)]
    exact h3.2
def SNX (h : TT) (k : Nat) : Prop := h.1 (16 + 2 * k) 0 = h.1 154 k ∧ (h.1 154 k = 0 ∨ (h.1 154 k = 1 ∧ (∀ j, j < 4 → h.1 (17 + 2 * k) j = h.1 155 (4 * k + j) ∧ h.1 155 (4 * k + j) = nI (gn (h.1 155) (4 * k + j))) ∧ gn (h.1 155) (4 * k) ≤ 30 ∧ gn (h.1 155) (4 * k + 1) ≤ 9 ∧ gn (h.1 155) (4 * k + 2) ≤ 40 ∧ gn (h.1 155) (4 * k + 3) ≤ 9))
def QF (h : TT) (k : Nat) : Nat → Int32 := fun j => h.1 157 (26 * k + j)
def qz (Q : Nat → Int32) : Nat → Nat := fun y => gn Q (3 + 3 * y)
def WQ (Q : Nat → Int32) : Prop := GW (qz Q) (gn Q 0) ∧ Q 0 = nI (gn Q 0) ∧ Q 1 = nI (gn Q 1) ∧ gn Q 1 ≤ 9 ∧ ∀ y, y < gn Q 0 → Q (3 + 3 * y) = nI (qz Q y) ∧ Q (4 + 3 * y) = nI (gn Q (4 + 3 * y)) ∧ gn Q (4 + 3 * y) ≤ 9
def PLX (h : TT) (k : Nat) : Prop := h.1 (25 + 4 * k) 0 = h.1 156 k ∧ (h.1 156 k = 0 ∨ (h.1 156 k = 1 ∧ WQ (QF h k) ∧ h.1 (25 + 4 * k) 1 = QF h k 0 ∧ h.1 (25 + 4 * k) 2 = nI (st (qz (QF h k)) (gn (QF h k) 0)) ∧ h.1 (25 + 4 * k) 3 = QF h k 1 ∧ ∀ y, y < gn (QF h k) 0 → h.1 (26 + 4 * k) y = QF h k (2 + 3 * y) ∧ h.1 (27 + 4 * k) y = QF h k (3 + 3 * y) ∧ h.1 (28 + 4 * k) y = QF h k (4 + 3 * y)))
def RowsAt (h : TT) (o : Nat) : Nat → Nat → Int32 := fun j => h.1 (o + j)
def HOk (h : TT) (o k : Nat) (P : Nat → Int32) (L : Nat) (w c : Nat → Int32) : Prop := WF P ∧ RS (RowsAt h o) P ∧ RD (RowsAt h o) P L w c ∧ AW P L w c ∧ stab P L w c ∧ ∀ j, j < 152 → h.1 161 (152 * k + j) = mkG P L w c j
def HX (h : TT) (o k : Nat) : Prop := h.1 o 0 = h.1 160 k ∧ ((h.1 160 k = 0 ∧ h.1 o 4 = 0 ∧ h.1 o 5 = 0) ∨ (h.1 160 k = 1 ∧ ∃ P L w c, HOk h o k P L w c))
def XX (h : TT) : Prop := (∀ k, k < 4 → SNX h k) ∧ (∀ k, k < 4 → PLX h k) ∧ HX h 41 0 ∧ ∀ k, k < 3 → HX h (59 + 17 * k) (1 + k)
section INV
variable {h h' : TT} {o k b : Nat} {B : Nat → Nat → Int32} {P : Nat → Int32} {L : Nat} {w c : Nat → Int32}
theorem SNX.fr (x : SNX h k) (e1 : h'.1 (16 + 2 * k) = h.1 (16 + 2 * k)) (e2 : h'.1 (17 + 2 * k) = h.1 (17 + 2 * k)) (e3 : h'.1 154 k = h.1 154 k) (e4 : ∀ j, j < 4 → h'.1 155 (4 * k + j) = h.1 155 (4 * k + j)) : SNX h' k := by
  have g : ∀ j, j < 4 → gn (h'.1 155) (4 * k + j) = gn (h.1 155) (4 * k + j) := fun j hj => by unfold gn; rw [e4 j hj]
  obtain ⟨a, b⟩ := x
  refine ⟨by rw [e1, e3]; exact a, ?_⟩
  rw [e3]
  rcases b with b | ⟨b1, b2, b3, b4, b5, b6⟩
  · exact Or.inl b
  · refine Or.inr ⟨b1, fun j hj => by rw [e2, e4 j hj, g j hj]; exact b2 j hj, ?_, ?_, ?_, ?_⟩
    · rw [show gn (h'.1 155) (4 * k) = gn (h.1 155) (4 * k) from g 0 (by omega)]; exact b3
    · rw [g 1 (by omega)]; exact b4
    · rw [g 2 (by omega)]; exact b5
    · rw [g 3 (by omega)]; exact b6
theorem PLX.fr (x : PLX h k) (e1 : h'.1 (25 + 4 * k) = h.1 (25 + 4 * k)) (e2 : h'.1 (26 + 4 * k) = h.1 (26 + 4 * k)) (e3 : h'.1 (27 + 4 * k) = h.1 (27 + 4 * k)) (e4 : h'.1 (28 + 4 * k) = h.1 (28 + 4 * k)) (e5 : h'.1 156 k = h.1 156 k) (e6 : h'.1 157 = h.1 157) : PLX h' k := by
  have q : QF h' k = QF h k := by unfold QF; rw [e6]
  unfold PLX at x ⊢
  rw [q, e1, e2, e3, e4, e5]
  exact x
theorem AGR.rows (e : ∀ j, j < 17 → h'.1 (o + j) = h.1 (o + j)) : AGR (RowsAt h' o) (RowsAt h o) := by
  have g : ∀ j, j < 17 → RowsAt h' o j = RowsAt h o j := e
  unfold AGR
  rw [g 0 (by omega), g 1 (by omega), g 2 (by omega), g 3 (by omega), g 4 (by omega), g 5 (by omega), g 6 (by omega), g 7 (by omega), g 8 (by omega), g 9 (by omega), g 10 (by omega), g 11 (by omega), g 12 (by omega), g 13 (by omega), g 14 (by omega), g 15 (by omega), g 16 (by omega)]
  exact ⟨⟨rfl, rfl, rfl, rfl, rfl⟩, rfl, fun _ _ => ⟨rfl, rfl⟩, fun _ _ => ⟨rfl, rfl, rfl, rfl, rfl⟩, fun _ _ => ⟨rfl, rfl, rfl, rfl, rfl, rfl, rfl, rfl⟩⟩
theorem AGR.of (e : ∀ j, j < 17 → h.1 (o + j) = B j) : AGR (RowsAt h o) B := by
  have g : ∀ j, j < 17 → RowsAt h o j = B j := e
  unfold AGR
  rw [g 0 (by omega), g 1 (by omega), g 2 (by omega), g 3 (by omega), g 4 (by omega), g 5 (by omega), g 6 (by omega), g 7 (by omega), g 8 (by omega), g 9 (by omega), g 10 (by omega), g 11 (by omega), g 12 (by omega), g 13 (by omega), g 14 (by omega), g 15 (by omega), g 16 (by omega)]
  exact ⟨⟨rfl, rfl, rfl, rfl, rfl⟩, rfl, fun _ _ => ⟨rfl, rfl⟩, fun _ _ => ⟨rfl, rfl, rfl, rfl, rfl⟩, fun _ _ => ⟨rfl, rfl, rfl, rfl, rfl, rfl, rfl, rfl⟩⟩
theorem HOk.fr (x : HOk h o k P L w c) (e1 : ∀ j, j < 17 → h'.1 (o + j) = h.1 (o + j)) (e3 : ∀ j, j < 152 → h'.1 161 (152 * k + j) = h.1 161 (152 * k + j)) : HOk h' o k P L w c := by
  obtain ⟨a, b, d, e, f, g⟩ := x
  exact ⟨a, b.ag a (AGR.rows e1), d.ag a (AGR.rows e1), e, f, fun j hj => by rw [e3 j hj]; exact g j hj⟩
theorem HX.fr (x : HX h o k) (e1 : ∀ j, j < 17 → h'.1 (o + j) = h.1 (o + j)) (e2 : h'.1 160 k = h.1 160 k) (e3 : ∀ j, j < 152 → h'.1 161 (152 * k + j) = h.1 161 (152 * k + j)) : HX h' o k := by
  obtain ⟨a, b⟩ := x
  have e0 : h'.1 o = h.1 o := e1 0 (by omega)
  refine ⟨by rw [e0, e2]; exact a, ?_⟩
  rw [e2, e0]
  rcases b with b | ⟨b, P, L, w, c, x⟩
  · exact Or.inl b
  · exact Or.inr ⟨b, P, L, w, c, x.fr e1 e3⟩
theorem XX_fr : FrY XX := by
  intro h h' x e
  obtain ⟨a, b, d, f⟩ := x
  have er : ∀ i, SX i → i ≠ 161 → h'.1 i = h.1 i := fun i hi hn => funext fun k => e i k hi (fun q => hn q.1)
  refine ⟨fun k hk => (a k hk).fr (er _ (by unfold SX; omega) (by omega)) (er _ (by unfold SX; omega) (by omega)) (by rw [er 154 (by unfold SX; omega) (by omega)]) (fun j _ => by rw [er 155 (by unfold SX; omega) (by omega)]), fun k hk => (b k hk).fr (er _ (by unfold SX; omega) (by omega)) (er _ (by unfold SX; omega) (by omega)) (er _ (by unfold SX; omega) (by omega)) (er _ (by unfold SX; omega) (by omega)) (by rw [er 156 (by unfold SX; omega) (by omega)]) (er _ (by unfold SX; omega) (by omega)), d.fr (fun j hj => er _ (by unfold SX; omega) (by omega)) (by rw [er 160 (by unfold SX; omega) (by omega)]) (fun j hj => e 161 _ (by unfold SX; omega) (by omega)), fun k hk => (f k hk).fr (fun j hj => er _ (by unfold SX; omega) (by omega)) (by rw [er 160 (by unfold SX; omega) (by omega)]) (fun j hj => e 161 _ (by unfold SX; omega) (by omega))⟩
abbrev INV : TT → Prop := InvX XX
theorem setB_id : setB h o (RowsAt h o) = h := by
  refine Prod.ext (funext fun a => ?_) rfl
  by_cases e : o ≤ a ∧ a < o + 17
  · obtain ⟨q, hq, rfl⟩ : ∃ q, q < 17 ∧ a = o + q := ⟨a - o, by omega, by omega⟩
    rw [sb_r hq]; rfl
  · rw [sb_o (by omega)]
theorem MSt_id (e : ∀ j, j < 152 → h.1 161 (b + j) = mkG P L w c j) : MSt h b P L w c = h := by
  refine Prod.ext (funext fun a => funext fun j => ?_) rfl
  show (wrow h 161 _).1 a j = _
  rw [wrow_1]
  by_cases q : a = 161
  · subst q
    rw [if_pos rfl]
    by_cases q2 : b ≤ j ∧ j < b + 152
    · rw [if_pos q2, ← e (j - b) (by omega), show b + (j - b) = j by omega]
    · rw [if_neg q2]
  · rw [if_neg q]
/-- the reference looks at the house as it is -/
def lk0 (h : TT) : TT := wr h 147 22 (nI 0)
theorem m_look0 (h : TT) : f_X8_look h 0 = some (lk0 h) := rfl
theorem lk0_ok : MOK (lk0 h) 0 := ⟨by unfold lk0; rw [wr_1, if_pos ⟨rfl, rfl⟩], by omega⟩
theorem lk0_r {i : Nat} (hi : i ≠ 147) : (lk0 h).1 i = h.1 i := wr_row hi
theorem HOk.ms (x : HOk h o 0 P L w c) (e : h'.1 161 = h.1 161) : lk0 h' = MSt (lk0 h') 0 P L w c := by
  refine (MSt_id (fun j hj => ?_)).symm
  rw [lk0_r (by omega), e, ← x.2.2.2.2.2 j hj]
theorem home (x : XX h) : (h.1 41 0 = 0 ∧ h.1 160 0 = 0 ∧ h.1 41 4 = 0 ∧ h.1 41 5 = 0) ∨ (h.1 41 0 = 1 ∧ h.1 160 0 = 1 ∧ ∃ P L w c, HOk h 41 0 P L w c) := by
  obtain ⟨a, b⟩ := x.2.2.1
  rcases b with b | b
  · exact Or.inl ⟨a.trans b.1, b⟩
  · exact Or.inr ⟨a.trans b.1, b⟩
theorem ib04' : inb 0 4 = true := by decide
theorem c_laid (x : XX h) (x1 : Int32) : (f_X7_isLaid h x1 = some 0 ∧ ∀ g : TT, g.1 160 = h.1 160 → g.1 161 = h.1 161 → f_X8_isBlock g x1 = some (0, lk0 g)) ∨ ∃ P L w c i, HOk h 41 0 P L w c ∧ i < L ∧ x1 = nI i ∧ f_X7_isLaid h x1 = some 1 ∧ ∀ g : TT, g.1 160 = h.1 160 → g.1 161 = h.1 161 → f_X8_isBlock g x1 = some (1, lk0 g) := by
  rcases home x with ⟨a1, a2, -⟩ | ⟨a1, a2, P, L, w, c, H⟩
  · left
    refine ⟨by unfold f_X7_isLaid; rw [if_pos a1], fun g e1 e2 => ?_⟩
    unfold f_X8_isBlock
    rw [m_look0, Option.bind_some, if_pos ib04', tn0, lk0_r (by omega), e1, if_pos a2]
  · have hL := H.2.2.2.1.1
    have h60 := H.1.a60
    have d4 : h.1 41 4 = nI L := H.2.2.1.1
    have mb : ∀ g : TT, g.1 160 = h.1 160 → g.1 161 = h.1 161 → f_X8_isBlock g x1 = some (if 0 ≤ x1 ∧ x1 < nI L then 1 else 0, lk0 g) := fun g e1 e2 => by
      unfold f_X8_isBlock
      rw [m_look0, Option.bind_some, if_pos ib04', tn0, lk0_r (by omega), e1, if_neg (by rw [a2]; decide), H.ms e2, v_L lk0_ok, Option.bind_some, f_in, Option.bind_some]
      by_cases e : 0 ≤ x1 ∧ x1 < nI L
      · rw [if_pos ((in_pred (by omega)).mpr e), if_pos e]; rfl
      · rw [if_neg (fun q => e ((in_pred (by omega)).mp q)), if_neg e]; rfl
    have cb : f_X7_isLaid h x1 = some (if 0 ≤ x1 ∧ x1 < nI L then 1 else 0) := by
      unfold f_X7_isLaid
      rw [if_neg (by rw [a1]; decide), d4, f_below, Option.bind_some]
      by_cases e : 0 ≤ x1 ∧ x1 < nI L
      · rw [if_pos e]; rfl
      · rw [if_neg e]; rfl
    rcases place x1 L (by omega) with ⟨i, hi, rfl⟩ | hb
    · right
      have e : 0 ≤ nI i ∧ nI i < nI L := lt_n hi (by omega)
      rw [if_pos e] at cb
      refine ⟨P, L, w, c, i, H, hi, rfl, cb, fun g e1 e2 => ?_⟩
      rw [mb g e1 e2, if_pos e]
    · left
      rw [if_neg hb] at cb
      refine ⟨cb, fun g e1 e2 => ?_⟩
      rw [mb g e1 e2, if_neg hb]
theorem sct_lk {g : TT} (hs : ScT h g) : ScT h (lk0 g) := sct_w hs (Or.inl (by unfold Scr; omega))
theorem sct_t {g : TT} (hs : ScT h g) {v : Int32} : ScT h (wr g 0 13 v) := sct_w hs (Or.inr (Or.inl ⟨rfl, rfl⟩))
theorem sct_a {g : TT} (hs : ScT h g) {v : Int32} : ScT h (wr g 147 2 v) := sct_w hs (Or.inr (Or.inr ⟨rfl, rfl⟩))
theorem inv_lk (hI : INV h) : INV (lk0 h) := inv_gen XX_fr hI (sct_lk (ScT.rf h)) (by unfold lk0; rw [wr_row (by omega), wr_1, if_neg (by omega)]; exact hI.1)
/-- told v by both, the reference having looked at the house as it is -/
theorem inv_ask (hI : INV h) {v : Int32} : INV (wr (lk0 (wr h 0 13 v)) 147 2 v) := by
  refine inv_gen XX_fr hI (sct_a (sct_lk (sct_t (ScT.rf h)))) ?_
  unfold lk0
  simp [wr_1]
theorem hok_c (H : HOk h 41 0 P L w c) {h' : TT} (e : ∀ j, j < 17 → h'.1 (41 + j) = h.1 (41 + j)) : setB h' 41 (RowsAt h' 41) = h' ∧ RS (RowsAt h' 41) P ∧ RD (RowsAt h' 41) P L w c := ⟨setB_id, H.2.1.ag H.1 (AGR.rows e), H.2.2.1.ag H.1 (AGR.rows e)⟩
theorem st_block : ST_block INV := by
  intro h hI x1 x2
  have x := hI.2.2.2.2.2
  rcases c_laid x x1 with ⟨c1, c2⟩ | ⟨P, L, w, c, i, H, hi, rfl, c1, c2⟩
  · refine ⟨-1, h, lk0 h, ?_, ?_, inv_lk hI⟩
    · unfold f_X7_block
      rw [c1]; rfl
    · unfold f_X8_block
      rw [c2 h rfl rfl]; rfl
  · have hL := H.2.2.2.1.1
    by_cases e : 0 ≤ x2 ∧ x2 < 5
    · refine ⟨1, wr h 0 13 (ftV P w c i x2), wr (lk0 (wr h 0 13 (ftV P w c i x2))) 147 2 (ftV P w c i x2), ?_, ?_, inv_ask hI⟩
      · unfold f_X7_block
        have q := c_fact (h := h) (o := 41) H.2.1 H.2.2.1 H.1 hL hi x2
        rw [setB_id] at q
        rw [c1, Option.bind_some, if_neg n1_0, f_below, Option.bind_some, if_pos e, if_neg n1_0, q]
        rfl
      · unfold f_X8_block
        have e2 : (0 : Int32) ≤ x2 ∧ x2 ≤ 4 := (le_pred (n := 5) (Or.inl (by decide))).mpr e
        rw [c2 _ (wr_row (by omega)) (wr_row (by omega)), Option.bind_some, if_neg n1_0, f_in, Option.bind_some, if_pos e2, if_neg n1_0]
        have q := m_tells (h := lk0 (wr h 0 13 (ftV P w c i x2))) (b := 0) (L := L) (w := w) (c := c) lk0_ok H.1 (i := i) (by omega) x2
        rw [← H.ms (wr_row (by omega))] at q
        show (f_X8_blockTells (lk0 (wr h 0 13 (ftV P w c i x2))) (nI i) x2).bind _ = _
        rw [q]
        rfl
    · refine ⟨-1, h, lk0 h, ?_, ?_, inv_lk hI⟩
      · unfold f_X7_block
        rw [c1, Option.bind_some, if_neg n1_0, f_below, Option.bind_some, if_neg e]; rfl
      · unfold f_X8_block
        have e2 : ¬ ((0 : Int32) ≤ x2 ∧ x2 ≤ 4) := fun q => e ((le_pred (n := 5) (Or.inl (by decide))).mp q)
        rw [c2 h rfl rfl, Option.bind_some, if_neg n1_0, f_in, Option.bind_some, if_neg e2]; rfl
end INV
