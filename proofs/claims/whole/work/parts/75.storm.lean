def okB (h : TT) (sn : Nat) (x2 t n : Int32) (k : Nat) : Bool := if h.1 156 k = 0 then false else decide (tmV h k x2 ≤ t) && (!decide (QF h k 3 / 2 < n) && stT (PP h sn k x2))
def stB (h : TT) (T : Nat → Bool) : Nat → Nat
  | 0 => 100
  | k + 1 => if T k = true ∧ (stB h T k = 100 ∨ qB h k < qB h (stB h T k)) then k else stB h T k
def fwN (h : TT) (T : Nat → Bool) (k : Nat) : Nat := if stB h T k = 100 then 61 else qB h (stB h T k)
section INV
variable {h h' g s : TT} {o k b q : Nat} {B B' : Nat → Nat → Int32} {P P' Q : Nat → Int32} {L L' : Nat} {w c w' c' rw' : Nat → Int32} {T : Nat → Bool}
theorem stB_ok : ∀ k, stB h T k = 100 ∨ (stB h T k < k ∧ T (stB h T k) = true) := by
  intro k
  induction k with
  | zero => exact Or.inl rfl
  | succ k ih =>
    rw [stB]
    by_cases e : T k = true ∧ (stB h T k = 100 ∨ qB h k < qB h (stB h T k))
    · rw [if_pos e]; exact Or.inr ⟨by omega, e.1⟩
    · rw [if_neg e]
      rcases ih with z | z
      · exact Or.inl z
      · exact Or.inr ⟨by omega, z.2⟩
theorem qB_le (x : PLX h k) (t : h.1 156 k = 1) : qB h k ≤ 60 := (pl_there x t).1.1.2.2.2
theorem raise1 (hW : WF P) (R : RS B P) : ∃ B' u, f_X0_raise (setB h 110 B) 110 0 = some (nI u, setB h 110 B') ∧ RS B' P ∧ u < 2 ^ 31 ∧ (u = 0 ↔ stT P = true) := by
  have h60 := hW.a60
  obtain ⟨L', B', e1, R', D', q1, q2, q3⟩ := c_raise (h := h) (o := 110) hW (m := 0) (by decide) R
  have fl := FN_le P L'
  have mo := FN_mono hW q1 (Nat.le_refl _)
  refine ⟨B', _, e1, R', by omega, ?_⟩
  rw [show (stT P = true) = (FN P (aF P) = 0) from propext ⟨fun z => of_decide_eq_true z, stT_t⟩]
  rcases q2 with q2 | q2
  · rw [q2]
  · omega
theorem XX_B (x : XX h) (B : Nat → Nat → Int32) : XX (setB h 110 B) := XX_row x (fun i hi => sb_o (by unfold SX at hi; omega))
theorem okB_th {sn : Nat} {x2 t n : Int32} (e : okB h sn x2 t n k = true) : ¬ h.1 156 k = 0 := fun z => by
  unfold okB at e
  rw [if_pos z] at e; cases e
theorem th1 (x : PLX h k) (e : ¬ h.1 156 k = 0) : h.1 156 k = 1 := by
  rcases pl_cs x with z | z
  · exact absurd z.2 e
  · exact z.2
theorem c_st (x : XX h) {sn : Nat} (hsn : sn < 4) (hs1 : h.1 154 sn = 1) {x2 t n : Int32} (hx2 : x2 = 1 ∨ x2 = 2) : ∀ (d f k : Nat) (B : Nat → Nat → Int32), k + d = 4 → d < f → ∃ B', f_X7_storm_75 f (nI sn) x2 t n (cv (stB h (okB h sn x2 t n) k)) (nI (fwN h (okB h sn x2 t n) k)) (nI k) (setB h 110 B) = (if stB h (okB h sn x2 t n) 4 = 100 then some (-9, setB h 110 B') else some (nI (stB h (okB h sn x2 t n) 4), wr (setB h 110 B') 0 13 (tmV h (stB h (okB h sn x2 t n) 4) x2))) := by
  have fb : ∀ k, k ≤ 4 → fwN h (okB h sn x2 t n) k ≤ 61 := fun k hk => by
    unfold fwN
    rcases stB_ok (h := h) (T := okB h sn x2 t n) k with z | z
    · rw [if_pos z]; exact Nat.le_refl _
    · rw [if_neg (by omega)]
      have := qB_le (x.2.1 _ (by omega)) (th1 (x.2.1 _ (by omega)) (okB_th z.2))
      omega
  intro d
  induction d with
  | zero =>
    intro f k B hk hf
    obtain ⟨f, rfl⟩ : ∃ g, f = g + 1 := ⟨f - 1, by omega⟩
    obtain rfl : k = 4 := by omega
    refine ⟨B, ?_⟩
    rw [f_X7_storm_75, if_pos (by decide)]
    unfold f_X7_storm_203
    rcases stB_ok (h := h) (T := okB h sn x2 t n) 4 with z | z
    · rw [z, cv_100, if_pos rfl, if_pos rfl]
    · have t1 := th1 (x.2.1 _ z.1) (okB_th z.2)
      have cm := c_tm (h := setB h 110 B) (k := stB h (okB h sn x2 t n) 4) ((XX_B x B).2.1 _ z.1) (by rw [sb_o (by omega)]; exact t1) x2
      have te : tmV (setB h 110 B) (stB h (okB h sn x2 t n) 4) x2 = tmV h (stB h (okB h sn x2 t n) 4) x2 := by
        unfold tmV qB QF
        rw [sb_o (by omega)]
      rw [te] at cm
      rw [cv_n (by omega), if_neg (nI_m9 (by omega)), if_neg (show ¬ stB h (okB h sn x2 t n) 4 = 100 by omega), if_pos (inb_nI z.1 (by decide)), nI_clamp (by omega), cm, Option.bind_some, nm_eq]
  | succ d ih =>
    intro f k B hk hf
    obtain ⟨f, rfl⟩ : ∃ g, f = g + 1 := ⟨f - 1, by omega⟩
    have fk := fb k (by omega)
    have r25 : ∀ B : Nat → Nat → Int32, (setB h 110 B).1 (25 + 4 * k) = h.1 (25 + 4 * k) := fun B => sb_o (by omega)
    rw [f_X7_storm_75, if_neg (show ¬ (4 : Int32) ≤ nI k from nI_ge (b := 4) (by omega) (by omega)), if_pos (inb_nI (by omega) (by decide)), nI_clamp (by omega), r25]
    unfold f_X7_storm_175
    rw [nI_1]
    have skip : ¬ (okB h sn x2 t n k = true ∧ (stB h (okB h sn x2 t n) k = 100 ∨ qB h k < qB h (stB h (okB h sn x2 t n) k))) → ∀ B, ∃ B', f_X7_storm_75 f (nI sn) x2 t n (cv (stB h (okB h sn x2 t n) k)) (nI (fwN h (okB h sn x2 t n) k)) (nI (k + 1)) (setB h 110 B) = (if stB h (okB h sn x2 t n) 4 = 100 then some (-9, setB h 110 B') else some (nI (stB h (okB h sn x2 t n) 4), wr (setB h 110 B') 0 13 (tmV h (stB h (okB h sn x2 t n) 4) x2))) := fun z B => by
      have q := ih f (k + 1) B (by omega) (by omega)
      unfold fwN at q
      rw [stB, if_neg z] at q
      exact q
    rcases pl_cs (x.2.1 k (by omega)) with ⟨p1, p2⟩ | ⟨p1, p2⟩
    · rw [if_pos p1]
      exact skip (fun z => okB_th z.1 p2) B
    · have ok : okB h sn x2 t n k = (decide (tmV h k x2 ≤ t) && (!decide (QF h k 3 / 2 < n) && stT (PP h sn k x2))) := by
        unfold okB
        rw [if_neg (by rw [p2]; decide)]
      have qk := qB_le (x.2.1 k (by omega)) p2
      have pq := (pl_there (x.2.1 k (by omega)) p2).2.2.1
      have pq : h.1 (25 + 4 * k) 2 = nI (qB h k) := pq
      have csl := c_sl (h := setB h 110 B) (k := k) ((XX_B x B).2.1 k (by omega)) (by rw [sb_o (by omega)]; exact p2)
      have ctm := c_tm (h := setB h 110 B) (k := k) ((XX_B x B).2.1 k (by omega)) (by rw [sb_o (by omega)]; exact p2) x2
      have e1 : QF (setB h 110 B) k = QF h k := by unfold QF; rw [sb_o (by omega)]
      have e2 : tmV (setB h 110 B) k x2 = tmV h k x2 := by unfold tmV qB; rw [e1]
      rw [e1] at csl
      rw [e2] at ctm
      rw [if_neg (by rw [p1]; decide), pq]
      by_cases u1 : qB h k < fwN h (okB h sn x2 t n) k
      · rw [if_pos (nI_lt u1 (by omega)), csl, Option.bind_some]
        by_cases u2 : QF h k 3 / 2 < n
        · rw [if_pos u2]
          exact skip (fun z => by have := z.1; rw [ok, decide_eq_true u2] at this; simp at this) B
        · rw [if_neg u2, ctm, Option.bind_some]
          by_cases u3 : tmV h k x2 ≤ t
          · obtain ⟨W1, -⟩ := PP_W (x.1 sn hsn) hs1 (x.2.1 k (by omega)) p2 hx2
            obtain ⟨B1, g1, R1, -⟩ := c_beginX (o := 110) (x.1 sn hsn) hs1 (x.2.1 k (by omega)) p2 hx2 hsn (by omega) (by omega) (B := B)
            obtain ⟨B2, u, g2, R2, ub, g3⟩ := raise1 (h := h) W1 R1
            rw [if_pos u3, if_pos (inb_nI hsn (by decide)), nI_clamp (by omega), g1, Option.bind_some, g2, Option.bind_some]
            by_cases u4 : u = 0
            · have take : okB h sn x2 t n k = true ∧ (stB h (okB h sn x2 t n) k = 100 ∨ qB h k < qB h (stB h (okB h sn x2 t n) k)) := by
                refine ⟨by rw [ok, decide_eq_true u3, decide_eq_false u2, g3.mp u4]; rfl, ?_⟩
                unfold fwN at u1
                by_cases z : stB h (okB h sn x2 t n) k = 100
                · exact Or.inl z
                · rw [if_neg z] at u1
                  exact Or.inr u1
              have q := ih f (k + 1) B2 (by omega) (by omega)
              unfold fwN at q
              rw [stB, if_pos take, if_neg (show ¬ k = 100 by omega), cv_n (by omega)] at q
              rw [if_pos (show nI u ≤ 0 by rw [u4]; decide), r25, pq, nm_eq]
              exact q
            · rw [if_neg (nI_nle (by omega) (by omega))]
              exact skip (fun z => by
                have := z.1
                rw [ok] at this
                simp only [Bool.and_eq_true] at this
                exact u4 (g3.mpr this.2.2)) B2
          · rw [if_neg u3]
            exact skip (fun z => by have := z.1; rw [ok, decide_eq_false u3] at this; simp at this) B
      · rw [if_neg (nI_nlt (by omega) (by omega))]
        refine skip (fun z => ?_) B
        unfold fwN at u1
        rcases z.2 with z | z
        · rw [if_pos z] at u1; omega
        · by_cases z' : stB h (okB h sn x2 t n) k = 100
          · rw [if_pos z'] at u1; omega
          · rw [if_neg z'] at u1; omega
theorem St_r (h2 : StG g s) {i : Nat} (h1 : i ≠ 161) (h3 : i ≠ 147) : s.1 i = g.1 i := funext fun j => St_c h2 h1 (fun z => h3 z.1)
theorem m_st (x : XX h) (r5 : g.1 155 = h.1 155) (r6 : g.1 156 = h.1 156) (r7 : g.1 157 = h.1 157) {sn : Nat} (hsn : sn < 4) (hs1 : h.1 154 sn = 1) {x2 t n : Int32} (hx2 : x2 = 1 ∨ x2 = 2) : ∀ (d f k : Nat) (s : TT), k + d = 4 → d < f → StG g s → ∃ s', f_X8_storm_69 f (nI sn) x2 t n (cv (stB h (okB h sn x2 t n) k)) (nI k) s = (if stB h (okB h sn x2 t n) 4 = 100 then some (-9, s') else some (nI (stB h (okB h sn x2 t n) 4), wr s' 147 2 (tmV h (stB h (okB h sn x2 t n) 4) x2))) ∧ StG g s' := by
  have qf : ∀ (s : TT) (k : Nat), StG g s → QF s k = QF h k := fun s k hs => by unfold QF; rw [St_r hs (by omega) (by omega), r7]
  have tf : ∀ (s : TT) (k : Nat) (v : Int32), StG g s → tmV s k v = tmV h k v := fun s k v hs => by unfold tmV qB; rw [qf s k hs]
  intro d
  induction d with
  | zero =>
    intro f k s hk hf hs
    obtain ⟨f, rfl⟩ : ∃ g, f = g + 1 := ⟨f - 1, by omega⟩
    obtain rfl : k = 4 := by omega
    refine ⟨s, ?_, hs⟩
    rw [f_X8_storm_69, if_pos (by decide)]
    rcases stB_ok (h := h) (T := okB h sn x2 t n) 4 with z | z
    · rw [z, cv_100, if_pos rfl, if_pos rfl]
    · have t1 := th1 (x.2.1 _ z.1) (okB_th z.2)
      have hQ := (pl_there (x.2.1 _ z.1) t1).1
      rw [cv_n (by omega), if_neg (nI_m9 (by omega)), if_neg (by omega), m_tm (by rw [qf s _ hs]; exact hQ) z.1, Option.bind_some, tf s _ _ hs]
      rfl
  | succ d ih =>
    intro f k s hk hf hs
    obtain ⟨f, rfl⟩ : ∃ g, f = g + 1 := ⟨f - 1, by omega⟩
    rw [f_X8_storm_69, if_neg (show ¬ (4 : Int32) ≤ nI k from nI_ge (b := 4) (by omega) (by omega)), if_pos (inb_nI (by omega) (by decide)), nI_clamp (by omega), St_r hs (by omega) (by omega), r6]
    have skip : ¬ (okB h sn x2 t n k = true ∧ (stB h (okB h sn x2 t n) k = 100 ∨ qB h k < qB h (stB h (okB h sn x2 t n) k))) → ∀ s, StG g s → ∃ s', f_X8_storm_69 f (nI sn) x2 t n (cv (stB h (okB h sn x2 t n) k)) (nI (k + 1)) s = (if stB h (okB h sn x2 t n) 4 = 100 then some (-9, s') else some (nI (stB h (okB h sn x2 t n) 4), wr s' 147 2 (tmV h (stB h (okB h sn x2 t n) 4) x2))) ∧ StG g s' := fun z s hs => by
      have q := ih f (k + 1) s (by omega) (by omega) hs
      rw [stB, if_neg z] at q
      exact q
    have s122 : ∀ s, f_X8_storm_122 (f_X8_storm_69 f) (nI sn) x2 t n (cv (stB h (okB h sn x2 t n) k)) (nI k) s = f_X8_storm_69 f (nI sn) x2 t n (cv (stB h (okB h sn x2 t n) k)) (nI (k + 1)) s := fun s => by
      unfold f_X8_storm_122 f_X8_storm_123 f_X8_storm_157 f_X8_storm_159
      rw [if_pos rfl, nI_1]
    rcases pl_cs (x.2.1 k (by omega)) with ⟨p1, p2⟩ | ⟨p1, p2⟩
    · rw [if_pos p2, s122]
      exact skip (fun z => okB_th z.1 p2) s hs
    · have ok : okB h sn x2 t n k = (decide (tmV h k x2 ≤ t) && (!decide (QF h k 3 / 2 < n) && stT (PP h sn k x2))) := by
        unfold okB
        rw [if_neg (by rw [p2]; decide)]
      have qk := qB_le (x.2.1 k (by omega)) p2
      have hQ := (pl_there (x.2.1 k (by omega)) p2).1
      rw [if_neg (by rw [p2]; decide), m_tm (by rw [qf s _ hs]; exact hQ) (by omega), Option.bind_some, tf s _ _ hs]
      by_cases u3 : t < tmV h k x2
      · rw [if_pos u3, s122]
        exact skip (fun z => by
          have := z.1
          rw [ok, decide_eq_false (fun y => by have a := i32_lt.mp u3; have b := i32_le.mp y; omega)] at this
          simp at this) s hs
      · have u3' : tmV h k x2 ≤ t := by rw [i32_le]; rw [i32_lt] at u3; omega
        rw [if_neg u3, m_pP (by omega), Option.bind_some, qf s k hs]
        by_cases u2 : QF h k 3 / 2 < n
        · rw [if_pos u2, s122]
          exact skip (fun z => by have := z.1; rw [ok, decide_eq_true u2] at this; simp at this) s hs
        · obtain ⟨W1, -⟩ := PP_W (x.1 sn hsn) hs1 (x.2.1 k (by omega)) p2 hx2
          have pe : PP g sn k x2 = PP h sn k x2 := PP_cg r5 r7
          obtain ⟨s1, k1, hs1'⟩ := m_stands hs hsn (k := k) (by omega) (x := x2) (by rw [pe]; exact W1)
          rw [pe] at k1
          rw [if_neg u2, k1, Option.bind_some]
          cases e4 : stT (PP h sn k x2) with
          | false =>
            rw [if_pos bIf, s122]
            exact skip (fun z => by have := z.1; rw [ok, e4] at this; simp at this) s1 hs1'
          | true =>
            rw [if_neg (bI_t rfl)]
            have okt : okB h sn x2 t n k = true := by rw [ok, decide_eq_true u3', decide_eq_false u2, e4]; rfl
            unfold f_X8_storm_123 f_X8_storm_157 f_X8_storm_152 f_X8_storm_159
            rw [if_neg n1_0, nI_1]
            rcases stB_ok (h := h) (T := okB h sn x2 t n) k with z | z
            · have q := ih f (k + 1) s1 (by omega) (by omega) hs1'
              rw [stB, if_pos ⟨okt, Or.inl z⟩, cv_n (by omega)] at q
              rw [z, if_pos cv_100]
              exact q
            · have tb := th1 (x.2.1 _ (by omega)) (okB_th z.2)
              have hQb := (pl_there (x.2.1 _ (by omega)) tb).1
              have qb := qB_le (x.2.1 _ (by omega)) tb
              have pb1 := m_pB (h := s1) (k := k) (by rw [qf s1 _ hs1']; exact hQ) (by omega)
              have pb2 := m_pB (h := s1) (k := stB h (okB h sn x2 t n) k) (by rw [qf s1 _ hs1']; exact hQb) (by omega)
              rw [qf s1 _ hs1'] at pb1 pb2
              have pb1 : f_X8_planBlocks s1 (nI k) = some (nI (qB h k)) := pb1
              have pb2 : f_X8_planBlocks s1 (nI (stB h (okB h sn x2 t n) k)) = some (nI (qB h (stB h (okB h sn x2 t n) k))) := pb2
              have sk := skip
              rw [cv_n (show stB h (okB h sn x2 t n) k < 100 by omega)] at sk ⊢
              rw [if_neg (nI_m9 (by omega)), pb1, Option.bind_some, pb2, Option.bind_some]
              by_cases u5 : qB h (stB h (okB h sn x2 t n) k) ≤ qB h k
              · rw [if_pos (nI_le u5 (by omega))]
                exact sk (fun y => by
                  rcases y.2 with y | y
                  · omega
                  · omega) s1 hs1'
              · have q := ih f (k + 1) s1 (by omega) (by omega) hs1'
                rw [stB, if_pos ⟨okt, Or.inr (by omega)⟩, cv_n (by omega)] at q
                rw [if_neg (nI_ge (by omega) (by omega))]
                exact q
theorem st_storm : ST_storm INV := by
  intro h hI x1 x2 x3 x4
  have x := hI.2.2.2.2.2
  rcases place x1 4 (by decide) with ⟨sn, hsn, rfl⟩ | hb
  · by_cases hx2 : x2 = 1 ∨ x2 = 2
    · by_cases hx3 : 0 ≤ x3 ∧ x3 ≤ 600
      · by_cases hx4 : 0 ≤ x4 ∧ x4 ≤ 6
        · have cc : f_X7_storm h (nI sn) x2 x3 x4 = (if (h.1 (16 + 2 * sn) 0) = 0 then f_X7_storm_58 h else (f_X7_plansThere h).bind fun r12 => (if r12 = 0 then f_X7_storm_58 h else f_X7_storm_75 KF (nI sn) x2 x3 x4 (-9 : Int32) (61 : Int32) (0 : Int32) h)) := by
            unfold f_X7_storm
            rw [f_below, Option.bind_some, if_pos (lt4 hsn).1, if_neg n1_0, f_areB, Option.bind_some, if_pos hx2, if_neg n1_0, f_upto, Option.bind_some, if_pos hx3, if_neg n1_0, f_upto, Option.bind_some, if_pos hx4, if_neg n1_0, if_pos (inb_nI hsn (by decide)), nI_clamp (by omega)]
          have mm : ∀ g : TT, f_X8_storm g (nI sn) x2 x3 x4 = (if (g.1 154 sn) = 0 then f_X8_storm_56 g else (f_X8_isAnyPlan g).bind fun r12 => (if r12 = 0 then f_X8_storm_56 g else f_X8_storm_69 KF (nI sn) x2 x3 x4 (-9 : Int32) (0 : Int32) g)) := fun g => by
            unfold f_X8_storm
            rw [f_isPlace, Option.bind_some, if_pos (lt4 hsn).2, if_neg n1_0, f_in, Option.bind_some, if_pos ((in12 x2).mpr hx2), if_neg n1_0, f_in, Option.bind_some, if_pos hx3, if_neg n1_0, f_in, Option.bind_some, if_pos hx4, if_neg n1_0, if_pos (inb_nI hsn (by decide)), nI_clamp (by omega)]
          rcases sn_cs (x.1 sn hsn) with ⟨p1, p2⟩ | ⟨p1, p2⟩
          · refine ⟨-3, hFind h 1, hMeet (hFind h 1) 1, ?_, ?_, inv_find XX_fr.frx hI (by decide)⟩
            · rw [cc, if_pos p1]
              exact fm_find h (by decide) rfl
            · rw [mm, hFind_r (by omega) (by omega), if_pos p2]
              exact fm_meet _ (by decide) rfl
          · have c4 := cnt_le (thB h) 4
            by_cases e0 : cnt (thB h) 4 = 0
            · refine ⟨-3, hFind h 1, hMeet (hFind h 1) 1, ?_, ?_, inv_find XX_fr.frx hI (by decide)⟩
              · rw [cc, if_neg (by rw [p1]; decide), c_pt x.2.1, Option.bind_some, if_pos (by rw [e0]; rfl)]
                exact fm_find h (by decide) rfl
              · have t0 : thB (hFind h 1) = thB h := by funext k; unfold thB; rw [hFind_r (by omega) (by omega)]
                rw [mm, hFind_r (by omega) (by omega), if_neg (by rw [p2]; decide), m_ap, Option.bind_some, t0, if_pos (bI_f (decide_eq_false (fun z => z e0)))]
                exact fm_meet _ (by decide) rfl
            · rw [if_neg (by rw [p1]; decide), c_pt x.2.1, Option.bind_some, if_neg (fun z => e0 ((nI_z (by omega)).mp z))] at cc
              obtain ⟨B', k1⟩ := c_st (h := h) x hsn p2 (t := x3) (n := x4) hx2 4 KF 0 (RowsAt h 110) (by omega) (by decide)
              rw [setB_id] at k1
              have cc := cc.trans k1
              have mg : ∀ g : TT, g.1 154 = h.1 154 → g.1 155 = h.1 155 → g.1 156 = h.1 156 → g.1 157 = h.1 157 → ∃ s', f_X8_storm g (nI sn) x2 x3 x4 = (if stB h (okB h sn x2 x3 x4) 4 = 100 then some (-9, s') else some (nI (stB h (okB h sn x2 x3 x4) 4), wr s' 147 2 (tmV h (stB h (okB h sn x2 x3 x4) 4) x2))) ∧ StG g s' := fun g r4 r5 r6 r7 => by
                obtain ⟨s', q1, q2⟩ := m_st (h := h) (g := g) x r5 r6 r7 hsn p2 (t := x3) (n := x4) hx2 4 KF 0 g (by omega) (by decide) (Or.inl rfl)
                have t0 : thB g = thB h := by funext k; unfold thB; rw [r6]
                refine ⟨s', ?_, q2⟩
                rw [mm, r4, if_neg (by rw [p2]; decide), m_ap, Option.bind_some, t0, if_neg (bI_t (decide_eq_true e0))]
                exact q1
              by_cases ez : stB h (okB h sn x2 x3 x4) 4 = 100
              · rw [if_pos ez] at cc
                obtain ⟨s', q1, q2⟩ := mg (setB h 110 B') (sb_o (by omega)) (sb_o (by omega)) (sb_o (by omega)) (sb_o (by omega))
                rw [if_pos ez] at q1
                exact ⟨-9, _, _, cc, q1, inv_st0 hI q2⟩
              · rw [if_neg ez] at cc
                obtain ⟨s', q1, q2⟩ := mg (wr (setB h 110 B') 0 13 (tmV h (stB h (okB h sn x2 x3 x4) 4) x2)) (by rw [wr_row (by omega), sb_o (by omega)]) (by rw [wr_row (by omega), sb_o (by omega)]) (by rw [wr_row (by omega), sb_o (by omega)]) (by rw [wr_row (by omega), sb_o (by omega)])
                rw [if_neg ez] at q1
                exact ⟨_, _, _, cc, q1, inv_stT hI q2⟩
        · refine ⟨-1, h, h, ?_, ?_, hI⟩
          · unfold f_X7_storm
            rw [f_below, Option.bind_some, if_pos (lt4 hsn).1, if_neg n1_0, f_areB, Option.bind_some, if_pos hx2, if_neg n1_0, f_upto, Option.bind_some, if_pos hx3, if_neg n1_0, f_upto, Option.bind_some, if_neg hx4]; rfl
          · unfold f_X8_storm
            rw [f_isPlace, Option.bind_some, if_pos (lt4 hsn).2, if_neg n1_0, f_in, Option.bind_some, if_pos ((in12 x2).mpr hx2), if_neg n1_0, f_in, Option.bind_some, if_pos hx3, if_neg n1_0, f_in, Option.bind_some, if_neg hx4]; rfl
      · refine ⟨-1, h, h, ?_, ?_, hI⟩
        · unfold f_X7_storm
          rw [f_below, Option.bind_some, if_pos (lt4 hsn).1, if_neg n1_0, f_areB, Option.bind_some, if_pos hx2, if_neg n1_0, f_upto, Option.bind_some, if_neg hx3]; rfl
        · unfold f_X8_storm
          rw [f_isPlace, Option.bind_some, if_pos (lt4 hsn).2, if_neg n1_0, f_in, Option.bind_some, if_pos ((in12 x2).mpr hx2), if_neg n1_0, f_in, Option.bind_some, if_neg hx3]; rfl
    · refine ⟨-1, h, h, ?_, ?_, hI⟩
      · unfold f_X7_storm
        rw [f_below, Option.bind_some, if_pos (lt4 hsn).1, if_neg n1_0, f_areB, Option.bind_some, if_neg hx2]; rfl
      · unfold f_X8_storm
        rw [f_isPlace, Option.bind_some, if_pos (lt4 hsn).2, if_neg n1_0, f_in, Option.bind_some, if_neg (fun z => hx2 ((in12 x2).mp z))]; rfl
  · refine ⟨-1, h, h, ?_, ?_, hI⟩
    · unfold f_X7_storm
      rw [f_below, Option.bind_some, if_neg (not_lt4 hb).1]; rfl
    · unfold f_X8_storm
      rw [f_isPlace, Option.bind_some, if_neg (not_lt4 hb).2]; rfl
end INV
