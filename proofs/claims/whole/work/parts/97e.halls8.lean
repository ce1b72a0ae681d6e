/-! ===== halls: all together ===== -/
/-- nothing but scratch has changed -/
def Sc0 (h h' : TT) : Prop := (∀ i k, ¬ Scr i k → h'.1 i k = h.1 i k) ∧ h'.2 = h.2
/-- the places of plan k in a feast with snow sn -/
def eH (h : TT) (sn k : Nat) : Nat := if h.1 156 k = 1 ∧ stT (PP h sn k 1) = true then gn (QF h k) 3 / 2 else 0
def bH (h : TT) (k : Nat) : Nat := if h.1 156 k = 1 then qB h k else 0
section HALLS
variable {h h' g s : TT} {k : Nat} {B : Nat → Nat → Int32}
theorem Sc0.rf (h : TT) : Sc0 h h := ⟨fun _ _ _ => rfl, rfl⟩
theorem Sc0.row (x : Sc0 h s) {i : Nat} (hi : ∀ k, ¬ Scr i k) : s.1 i = h.1 i := funext fun k => x.1 i k (hi k)
theorem Sc0.w (x : Sc0 h s) {i k : Nat} {v : Int32} (hc : Scr i k) : Sc0 h (wr s i k v) := ⟨fun a b y => by
  rw [wr_1, if_neg (fun q => by obtain ⟨rfl, rfl⟩ := q; exact y hc)]
  exact x.1 a b y, x.2⟩
theorem Sc0.ww (x : Sc0 h s) {i : Nat} {f : Nat → Int32} (hc : ∀ k, Scr i k) : Sc0 h (wrow s i f) := ⟨fun a b y => by
  rw [wrow_1, if_neg (fun q => by subst q; exact y (hc b))]
  exact x.1 a b y, x.2⟩
theorem Sc0.sb (x : Sc0 h s) (B : Nat → Nat → Int32) : Sc0 h (setB s 110 B) := ⟨fun a b y => by
  rw [sb_o (by unfold Scr at y; omega)]
  exact x.1 a b y, x.2⟩
theorem Sc0.St (x : Sc0 h g) (y : StG g s) : Sc0 h s := ⟨fun i k z => by
  by_cases e : i = 161
  · exact ((sct_St (ScT.rf g) y).1 i k z (by omega) (by omega)).trans (x.1 i k z)
  · rw [St_c y e (fun q => z (by unfold Scr; omega))]
    exact x.1 i k z, (St_2 y).trans x.2⟩
theorem Sc0.xx (x : Sc0 h s) (hx : XX h) : XX s := XX_fr h s hx (fun i k hi hk => x.1 i k (fun q => by unfold Scr at q; unfold SX at hi; omega))
theorem eH_pl (x : PLX h k) (t : h.1 156 k = 1) : QF h k 3 / 2 = nI (gn (QF h k) 3 / 2) ∧ gn (QF h k) 3 ≤ 12 := by
  obtain ⟨hQ, -⟩ := pl_there x t
  have h1 := hQ.1.1
  have h2 : QF h k 3 = nI (gn (QF h k) 3) := (hQ.2.2.2.2 0 (by omega)).1
  have h3 : gn (QF h k) 3 ≤ 12 := (hQ.1.2.2.1 0 (by omega)).2
  refine ⟨?_, h3⟩
  rw [h2, show (2 : Int32) = nI 2 from rfl, pk_div (by omega) (by omega) (by omega)]
theorem eH_le (x : ∀ k, k < 4 → PLX h k) {sn : Nat} (k : Nat) (hk : k < 4) : eH h sn k ≤ 1000 := by
  unfold eH
  by_cases z : h.1 156 k = 1 ∧ stT (PP h sn k 1) = true
  · rw [if_pos z]
    have := (eH_pl (x k hk) z.1).2
    omega
  · rw [if_neg z]; omega
theorem bH_le (x : ∀ k, k < 4 → PLX h k) (k : Nat) (hk : k < 4) : bH h k ≤ 60 := by
  unfold bH
  by_cases z : h.1 156 k = 1
  · rw [if_pos z]
    exact qB_le (x k hk) z
  · rw [if_neg z]; omega
theorem of_e0 {x1 X Y : Int32} : ∀ (f : Nat) (i : Int32) (s : TT), f_X1_offer_19 f x1 0 X i s = f_X1_offer_19 f x1 0 Y i s := by
  intro f
  induction f with
  | zero => intro i s; rfl
  | succ f ih =>
    intro i s
    have q : ∀ (y : Int32), f_X1_offer_72 (f_X1_offer_19 f) x1 0 X i y s = f_X1_offer_72 (f_X1_offer_19 f) x1 0 Y i y s := fun y => by
      unfold f_X1_offer_72
      rw [nm_eq, nm_eq, ih]
    rw [f_X1_offer_19, nm_eq, if_pos (show (0 : Int32) ≤ 0 by decide), f_X1_offer_19, nm_eq, if_pos (show (0 : Int32) ≤ 0 by decide), q]
theorem c_of0 {b : Nat} {X : Int32} {up : Nat → Nat} (hk : k < 4) (hb : b ≤ 60) (hu : ∀ g, g ≤ 40 → up g ≤ 1000000) (h1 : ∀ g, g ≤ 40 → h.1 (140 + (k + 1)) g = nI (up g)) : f_X1_offer h (nI k) 0 X = some (ofF h k 0 b up) := by
  have q := c_ofF (e := 0) hk (by omega) hb hu h1
  rw [show nI 0 = (0 : Int32) from rfl] at q
  rw [← q]
  unfold f_X1_offer
  rw [f_below, Option.bind_some, Option.bind_some, nm_eq, nm_eq, of_e0 (X := X) (Y := nI b)]
theorem c_hst (x : XX h) {sn f : Nat} {x2 x3 : Int32} {up : Nat → Nat} (hsn : sn < 4) (hs1 : h.1 154 sn = 1) (hk : k < 4) (hs : Sc0 h s) (hu : ∀ g, g ≤ 40 → up g ≤ 1000000) (h1 : ∀ g, g ≤ 40 → s.1 (140 + (k + 1)) g = nI (up g)) : ∃ s1, Sc0 h s1 ∧ (∀ a, 127 ≤ a → s1.1 a = s.1 a) ∧ f_X7_halls_65 (f + 1) (nI sn) x2 x3 (nI k) s = f_X7_halls_65 f (nI sn) x2 x3 (nI k + -1) (ofF s1 k (eH h sn k) (bH h k) up) := by
  have r25 : s.1 (25 + 4 * k) = h.1 (25 + 4 * k) := hs.row (fun j q => by unfold Scr at q; omega)
  have r156 : s.1 156 = h.1 156 := hs.row (fun j q => by unfold Scr at q; omega)
  have r154 : s.1 154 = h.1 154 := hs.row (fun j q => by unfold Scr at q; omega)
  have r155 : s.1 155 = h.1 155 := hs.row (fun j q => by unfold Scr at q; omega)
  have r157 : s.1 157 = h.1 157 := hs.row (fun j q => by unfold Scr at q; omega)
  have xs := hs.xx x
  have bl := bH_le x.2.1 k hk
  rw [f_X7_halls_65, if_neg (nI_pos (by omega)), if_pos (inb_nI hk (by decide)), nI_clamp (by omega), r25]
  rcases pl_cs (x.2.1 k hk) with ⟨p1, p2⟩ | ⟨p1, p2⟩
  · refine ⟨s, hs, fun _ _ => rfl, ?_⟩
    rw [if_pos p1]
    unfold f_X7_halls_125 f_X7_halls_150
    rw [if_pos rfl, if_pos (inb_nI hk (by decide)), c_of0 hk bl hu h1, Option.bind_some, show eH h sn k = 0 from if_neg (fun z => by have := z.1; rw [p2] at this; cases this)]
  · obtain ⟨W1, -⟩ := PP_W (x.1 sn hsn) hs1 (x.2.1 k hk) p2 (x := 1) (Or.inl rfl)
    have pe : PP s sn k 1 = PP h sn k 1 := PP_cg r155 r157
    obtain ⟨B1, g1, R1, -⟩ := c_beginX (h := s) (o := 110) (xs.1 sn hsn) (by rw [r154]; exact hs1) (xs.2.1 k hk) (by rw [r156]; exact p2) (x := 1) (Or.inl rfl) hsn hk (by omega) (B := RowsAt s 110)
    rw [setB_id] at g1
    rw [pe] at R1
    obtain ⟨B2, u, g2, R2, ub, g3⟩ := raise1 (h := s) W1 R1
    refine ⟨setB s 110 B2, hs.sb B2, fun a ha => sb_o (by omega), ?_⟩
    have h1' : ∀ g, g ≤ 40 → (setB s 110 B2).1 (140 + (k + 1)) g = nI (up g) := fun g hg => by rw [sb_o (by omega)]; exact h1 g hg
    rw [if_neg (by rw [p1]; decide), if_pos (inb_nI hsn (by decide)), if_pos (inb_nI hk (by decide)), nI_clamp (show sn < 2 ^ 31 by omega), g1, Option.bind_some, g2, Option.bind_some]
    by_cases u4 : u = 0
    · have pq : (setB s 110 B2).1 (25 + 4 * k) 2 = nI (bH h k) := by
        rw [sb_o (by omega), r25, show bH h k = qB h k from if_pos p2]
        exact (pl_there (x.2.1 k hk) p2).2.2.1
      have csl := c_sl (h := setB s 110 B2) (k := k) ((XX_B xs B2).2.1 k hk) (by rw [sb_o (by omega), r156]; exact p2)
      have e1 : QF (setB s 110 B2) k = QF h k := by unfold QF; rw [sb_o (by omega), r157]
      have ee : eH h sn k = gn (QF h k) 3 / 2 := if_pos ⟨p2, g3.mp u4⟩
      obtain ⟨q1, q2⟩ := eH_pl (x.2.1 k hk) p2
      rw [e1, q1, ← ee] at csl
      rw [if_pos (show nI u = 0 by rw [u4]; rfl)]
      unfold f_X7_halls_123 f_X7_halls_125 f_X7_halls_150
      rw [if_neg n1_0, if_pos (inb_nI hk (by decide)), nI_clamp (by omega), csl, Option.bind_some, if_pos (inb_nI hk (by decide)), pq, c_ofF hk (by omega) bl hu h1', Option.bind_some]
    · rw [if_neg (fun z => u4 ((nI_z ub).mp z))]
      unfold f_X7_halls_123 f_X7_halls_125 f_X7_halls_150
      rw [if_pos rfl, if_pos (inb_nI hk (by decide)), c_of0 hk bl hu h1', Option.bind_some, show eH h sn k = 0 from if_neg (fun z => u4 (g3.mpr z.2))]
theorem c_h65 (x : XX h) {sn : Nat} {x2 x3 : Int32} (hsn : sn < 4) (hs1 : h.1 154 sn = 1) : ∀ (j f : Nat) (s : TT), j ≤ 4 → Sc0 h s → (∀ i g, j ≤ i → i ≤ 4 → g ≤ 40 → s.1 (140 + i) g = nI (fwT (eH h sn) (bH h) (4 - i) g)) → (∀ i, j ≤ i → i < 4 → s.1 145 i = nI (eH h sn i)) → ∃ s', Sc0 h s' ∧ (∀ i g, i ≤ 4 → g ≤ 40 → s'.1 (140 + i) g = nI (fwT (eH h sn) (bH h) (4 - i) g)) ∧ (∀ i, i < 4 → s'.1 145 i = nI (eH h sn i)) ∧ f_X7_halls_65 (f + j) (nI sn) x2 x3 (nI j + -1) s = f_X7_halls_65 f (nI sn) x2 x3 (-1) s' := by
  intro j
  induction j with
  | zero =>
    intro f s hj hs ht he
    exact ⟨s, hs, fun i g h1 h2 => ht i g (by omega) h1 h2, fun i h1 => he i (by omega) h1, by rw [Nat.add_zero]; rfl⟩
  | succ j ih =>
    intro f s hj hs ht he
    have t1 : fwT (eH h sn) (bH h) (4 - j) = fwR (eH h sn j) (bH h j) (fwT (eH h sn) (bH h) (4 - (j + 1))) := by
      rw [show 4 - j = (4 - (j + 1)) + 1 by omega, fwT, show 3 - (4 - (j + 1)) = j by omega]
    obtain ⟨s1, a1, a2, a3⟩ := c_hst (f := f + j) (x2 := x2) (x3 := x3) (k := j) (up := fwT (eH h sn) (bH h) (4 - (j + 1))) x hsn hs1 (by omega) hs (fun g _ => fwT_le _ g) (fun g hg => ht (j + 1) g (by omega) (by omega) hg)
    obtain ⟨s', b1, b2, b3, b4⟩ := ih f (ofF s1 j (eH h sn j) (bH h j) (fwT (eH h sn) (bH h) (4 - (j + 1)))) (by omega) ((a1.w (by unfold Scr; omega)).ww (fun q => by unfold Scr; omega)) (fun i g h1 h2 h3 => by
      by_cases z : i = j
      · rw [z, ofF_g h3, t1]
      · rw [ofF_r (by omega) (by omega), a2 _ (by omega)]
        exact ht i g (by omega) h2 h3) (fun i h1 h2 => by
      by_cases z : i = j
      · rw [z, ofF_e (by omega)]
      · rw [ofF_r (by omega) (by omega), a2 _ (by omega)]
        exact he i (by omega) h2)
    refine ⟨s', b1, b2, b3, ?_⟩
    rw [← b4, ← a3, ← Int32.sub_eq_add_neg (nI (j + 1)) 1, nI_pred, show f + (j + 1) = f + j + 1 by omega]
theorem c_least {G T : Nat} (hG : G ≤ 40) (hT : T ≤ 1000000) (e : s.1 140 G = nI T) : f_X1_leastFor s (nI G) = some (if T < 1000000 then nI T else -9) := by
  unfold f_X1_leastFor
  rw [f_upto, Option.bind_some, if_pos (show (0 : Int32) ≤ nI G ∧ nI G ≤ 40 from ⟨nI_le0 (by omega), nI_le (b := 40) hG (by decide)⟩), if_neg n1_0, if_pos (show inb 0 5 = true by decide), if_pos (inb_nI (show G < 41 by omega) (by decide)), if_pos (show inb 0 5 = true by decide), if_pos (inb_nI (show G < 41 by omega) (by decide)), tn0, nI_clamp (by omega), show 140 + 0 = 140 from rfl, e]
  by_cases z : T < 1000000
  · rw [if_pos (show nI T < 1000000 from nI_lt (b := 1000000) z (by decide)), if_pos z]
  · rw [if_neg (show ¬ nI T < 1000000 from nI_nlt (b := 1000000) (by omega) (by omega)), if_neg z]
theorem inv_hl {r : Nat} (hI : INV h) (hr : r < 6) (hz : h'.2 = h.2) (e : ∀ i j, ¬ Scr i j → i ≠ 2 + r → ¬ (i = 8 ∧ j = r) → ¬ (i = 149 ∧ j = r) → ¬ (i = 150 ∧ 60 * r ≤ j ∧ j < 60 * r + 60) → h'.1 i j = h.1 i j) (q1 : h'.1 8 r = nI 4) (q2 : h'.1 149 r = nI 4) (q3 : ∀ j, j < 60 → h'.1 (2 + r) j = h'.1 150 (60 * r + j)) : INV h' := by
  obtain ⟨h1, h2, h3, h4, h5, h6⟩ := hI
  have er : ∀ i, (∀ k, ¬ Scr i k) → i ≠ 2 + r → i ≠ 8 → i ≠ 149 → i ≠ 150 → h'.1 i = h.1 i := fun i a b c d f => funext fun k => e i k (a k) b (fun q => c q.1) (fun q => d q.1) (fun q => f q.1)
  refine ⟨?_, ⟨?_, fun k hk => ?_⟩, by unfold R_frac; rw [hz]; exact h3, fun q hq => ?_, R_txt_fr h5 (fun i hi => er i (fun k q => by unfold Scr at q; omega) (by omega) (by omega) (by omega) (by omega)), XX_fr _ _ h6 (fun i k hi hk => e i k (fun q => by unfold Scr at q; unfold SX at hi; omega) (by unfold SX at hi; omega) (by unfold SX at hi; omega) (by unfold SX at hi; omega) (by unfold SX at hi; omega))⟩
  · unfold R_told
    rw [e 0 13 (fun q => by unfold Scr at q; omega) (by omega) (by omega) (by omega) (by omega), e 147 2 (fun q => by unfold Scr at q; omega) (by omega) (by omega) (by omega) (by omega)]
    exact h1
  · rw [e 0 16 (fun q => by unfold Scr at q; omega) (by omega) (by omega) (by omega) (by omega), e 147 0 (fun q => by unfold Scr at q; omega) (by omega) (by omega) (by omega) (by omega)]
    exact h2.1
  · rw [e 146 k (fun q => by unfold Scr at q; omega) (by omega) (by omega) (by omega) (by omega), e 148 k (fun q => by unfold Scr at q; omega) (by omega) (by omega) (by omega) (by omega)]
    exact h2.2 k hk
  · by_cases z : q = r
    · rw [z]
      exact ⟨q1.trans q2.symm, Or.inr ⟨4, by omega, q1⟩, q3⟩
    · obtain ⟨a1, a2, a3⟩ := h4 q hq
      rw [e 8 q (fun y => by unfold Scr at y; omega) (by omega) (by omega) (by omega) (by omega), e 149 q (fun y => by unfold Scr at y; omega) (by omega) (by omega) (by omega) (by omega)]
      refine ⟨a1, a2, fun j hj => ?_⟩
      rw [e (2 + q) j (fun y => by unfold Scr at y; omega) (by omega) (by omega) (by omega) (by omega), e 150 (60 * q + j) (fun y => by unfold Scr at y; omega) (by omega) (by omega) (by omega) (by omega)]
      exact a3 j hj
end HALLS
