def gl : Nat → Nat → Nat → Nat
  | 0, a, _ => a
  | n + 1, a, b => if b = 0 then a else gl n b (a % b)
def slS (P : Nat → Int32) (t : Nat) : Bool := match slI P t with
  | some _ => true
  | none => false
def slT (P : Nat → Int32) (t : Nat) : Bool := match slI P t with
  | some kv => stT (upd P kv.1 kv.2)
  | none => false
section INV
variable {h h' g s : TT} {o k b q : Nat} {B B' : Nat → Nat → Int32} {P P' Q : Nat → Int32} {L L' : Nat} {w c w' c' : Nat → Int32}
theorem slI_k {t : Nat} {kv : Nat × Int32} (e : slI P t = some kv) : kv.1 = 4 ∨ ∃ y, kv.1 = 9 + 3 * y := by
  have o : ∀ k v lo hi, slO k v lo hi = some kv → kv.1 = k := fun k v lo hi z => by
    unfold slO at z
    by_cases q : lo ≤ v ∧ v ≤ hi
    · rw [if_pos q] at z; cases z; rfl
    · rw [if_neg q] at z; cases z
  unfold slI at e
  by_cases e1 : t = 80
  · rw [if_pos e1] at e; exact Or.inl (o _ _ _ _ e)
  · rw [if_neg e1] at e
    by_cases e2 : t = 90
    · rw [if_pos e2] at e; exact Or.inl (o _ _ _ _ e)
    · rw [if_neg e2] at e
      by_cases e3 : t / 10 < mF P ∧ t % 10 ≤ 2
      · rw [if_pos e3] at e; exact Or.inr ⟨_, o _ _ _ _ e⟩
      · rw [if_neg e3] at e; cases e
theorem RSx.of {Bp : Nat → Nat → Int32} {k : Nat} {v : Int32} (Rp : RS Bp P) (R : RS B (upd P k v)) (hk : k = 4 ∨ ∃ y, k = 9 + 3 * y) : RSx B P := by
  have hz : zF (upd P k v) = zF P := up_z (fun z => by rcases hk with h | ⟨y, h⟩ <;> omega)
  have hm : mF (upd P k v) = mF P := up_m (by rcases hk with h | ⟨y, h⟩ <;> omega)
  have h7 : ∀ y, upd P k v (7 + 3 * y) = P (7 + 3 * y) := fun y => pk_un (by rcases hk with h | ⟨z, h⟩ <;> omega)
  refine ⟨fun a => if 3 ≤ a ∧ a ≤ 6 then Bp a else B a, ?_, fun a ha => (if_neg (by omega)).symm⟩
  obtain ⟨a1, a2, a3, a4, a5, a6, a7, a8, a9, a10⟩ := R
  obtain ⟨p1, p2, p3, p4, p5, p6, p7, p8, p9, p10⟩ := Rp
  have e : ∀ a, a < 3 ∨ 7 ≤ a → (if 3 ≤ a ∧ a ≤ 6 then Bp a else B a) = B a := fun a ha => if_neg (by omega)
  have f : ∀ a, 3 ≤ a ∧ a ≤ 6 → (if 3 ≤ a ∧ a ≤ 6 then Bp a else B a) = Bp a := fun a ha => if_pos ha
  unfold RS
  simp only [e 0 (by omega), e 1 (by omega), e 2 (by omega), f 3 (by omega), f 4 (by omega), f 5 (by omega), f 6 (by omega), e 11 (by omega), e 12 (by omega), e 13 (by omega), e 14 (by omega), e 15 (by omega), e 16 (by omega)]
  refine ⟨a1, a2, p3, ?_, fun j hj => ?_, p6, p7, p8, fun y hy => ?_, fun i hi => ?_⟩
  · rw [a4, pk_un (by rcases hk with h | ⟨y, h⟩ <;> omega)]
  · rw [a5 j hj, pk_un (by rcases hk with h | ⟨y, h⟩ <;> omega)]
  · obtain ⟨q1, q2, q3, -⟩ := p9 y hy
    have := (a9 y (by rw [hm]; exact hy)).2.2.2
    rw [geo_s hz] at this
    exact ⟨q1, q2, q3, this⟩
  · have := a10 i (by rw [geo_a hz hm]; exact hi)
    rw [geo_c hz hm, geo_1 hz hm, geo_2 hz hm, geo_b hz hm (h7 _), geo_h hz hm (h7 _)] at this
    exact this
theorem c_odds (H : HOk h 41 0 P L w c) : ∀ (d f t : Nat) (B : Nat → Nat → Int32), t + d = 91 → d < f → RSx B P → ∃ B', f_X7_odds_30 f (nI (cnt (slS P) t)) (nI (cnt (slT P) t)) (nI t) (setB h 110 B) = (f_X7_tellPart (setB h 110 B') (nI (cnt (slT P) 91)) (nI (cnt (slS P) 91))).bind fun h4 => some (nI (cnt (slS P) 91), h4) := by
  intro d
  induction d with
  | zero =>
    intro f t B ht hf R
    obtain ⟨f, rfl⟩ : ∃ g, f = g + 1 := ⟨f - 1, by omega⟩
    obtain rfl : t = 91 := by omega
    refine ⟨B, ?_⟩
    rw [f_X7_odds_30, if_pos (by decide)]
  | succ d ih =>
    intro f t B ht hf R
    obtain ⟨f, rfl⟩ : ∃ g, f = g + 1 := ⟨f - 1, by omega⟩
    obtain ⟨z1, z2⟩ := c_slip H R (t := t) (by omega)
    rw [f_X7_odds_30, if_neg (show ¬ (90 : Int32) < nI t from nI_nlt (a := 90) (by omega) (by omega))]
    unfold f_X7_odds_77
    rw [nI_1]
    cases e : slI P t with
    | none =>
      obtain ⟨B1, e1, R1⟩ := z2 e
      have q := ih f (t + 1) B1 (by omega) (by omega) R1
      rw [cnt, cnt, show slS P t = false by unfold slS; rw [e], show slT P t = false by unfold slT; rw [e]] at q
      rw [e1, Option.bind_some, if_pos rfl]
      exact q
    | some kv =>
      obtain ⟨B1, e1, R1⟩ := z1 kv e
      have W2 := slI_W H.1 e
      obtain ⟨B2, u, e2, R2, e3⟩ := raise0' (h := h) W2 R1
      have q := ih f (t + 1) B2 (by omega) (by omega) (RSx.of H.2.1 R2 (slI_k e))
      rw [cnt, cnt, show slS P t = true by unfold slS; rw [e], show slT P t = stT (upd P kv.1 kv.2) by unfold slT; rw [e], if_pos rfl] at q
      rw [e1, Option.bind_some, if_neg n1_0, e2, Option.bind_some, nI_1]
      by_cases e9 : u = 0
      · rw [if_pos (e3.mp e9)] at q
        rw [if_pos e9, nI_1]
        exact q
      · rw [if_neg (fun z => e9 (e3.mpr z))] at q
        rw [if_neg e9]
        exact q
theorem m_odds (hW : WF P) (e : ∀ j, j < 152 → g.1 161 j = mkG P L w c j) : ∀ (d f t : Nat) (s : TT), t + d = 100 → d < f → StG g s → ∃ s', f_X8_odds_18 f (nI (cnt (slS P) t)) (nI (cnt (slT P) t)) (nI t) s = ((f_X8_fraction s' (nI (cnt (slT P) 100)).toInt64 (nI (cnt (slS P) 100)).toInt64 (nI (cnt (slS P) 100))).bind fun q4 => some (q4.1, q4.2)) ∧ StG g s' := by
  intro d
  induction d with
  | zero =>
    intro f t s ht hf hs
    obtain ⟨f, rfl⟩ : ∃ g, f = g + 1 := ⟨f - 1, by omega⟩
    obtain rfl : t = 100 := by omega
    refine ⟨s, ?_, hs⟩
    rw [f_X8_odds_18, if_pos (by decide)]
  | succ d ih =>
    intro f t s ht hf hs
    obtain ⟨f, rfl⟩ : ∃ g, f = g + 1 := ⟨f - 1, by omega⟩
    obtain ⟨z1, z2⟩ := m_slip hs e hW (t := t) (by omega)
    rw [f_X8_odds_18, if_neg (show ¬ (100 : Int32) ≤ nI t from nI_ge (b := 100) (by omega) (by omega))]
    unfold f_X8_odds_48 f_X8_odds_50
    rw [nI_1]
    cases es : slI P t with
    | none =>
      obtain ⟨s', q, hs'⟩ := ih f (t + 1) _ (by omega) (by omega) (Or.inr ⟨P, L, w, c, rfl⟩)
      rw [cnt, cnt, show slS P t = false by unfold slS; rw [es], show slT P t = false by unfold slT; rw [es]] at q
      refine ⟨s', ?_, hs'⟩
      rw [z2 es, Option.bind_some, if_pos rfl]
      exact q
    | some kv =>
      have W2 := slI_W hW es
      obtain ⟨u, e1, e2⟩ := m_bu (h := lk4 g) (b := 608) (L := L) (w := w) (c := c) lk4_ok W2
      obtain ⟨s', q, hs'⟩ := ih f (t + 1) _ (by omega) (by omega) (Or.inr ⟨upd P kv.1 kv.2, aF (upd P kv.1 kv.2), buW (upd P kv.1 kv.2) (aF (upd P kv.1 kv.2)), c0, rfl⟩)
      rw [cnt, cnt, show slS P t = true by unfold slS; rw [es], show slT P t = stT (upd P kv.1 kv.2) by unfold slT; rw [es], if_pos rfl] at q
      refine ⟨s', ?_, hs'⟩
      rw [z1 kv es, Option.bind_some, if_neg n1_0, e1, Option.bind_some, nI_1, nm_eq, nm_eq]
      by_cases e9 : u = 0
      · rw [if_pos (e2.mp e9)] at q
        rw [if_pos e9, nI_1]
        exact q
      · rw [if_neg (fun z => e9 (e2.mpr z))] at q
        rw [if_neg e9, nI_1, show ∀ n : Nat, nI n + 0 = nI (n + 0) from fun n => nI_add n 0]
        exact q
theorem sl_hi (hW : WF P) {t : Nat} (h1 : 91 ≤ t) (h2 : t < 100) : slI P t = none := by
  have := mF8 hW
  unfold slI
  rw [if_neg (by omega), if_neg (by omega), if_neg (by omega)]
theorem cS_100 (hW : WF P) : cnt (slS P) 100 = cnt (slS P) 91 := cnt_flat (by omega) (fun k h1 h2 => by unfold slS; rw [sl_hi hW h1 h2])
theorem cT_100 (hW : WF P) : cnt (slT P) 100 = cnt (slT P) 91 := cnt_flat (by omega) (fun k h1 h2 => by unfold slT; rw [sl_hi hW h1 h2])
theorem cS_pos (hW : WF P) : 0 < cnt (slS P) 91 := by
  have m1 := hW.1.1
  obtain ⟨-, p9, p10⟩ := hW.2.2.2.2.2.2.2 0 (by omega)
  have p9 : P 9 = nI (gn P 9) := p9
  have p10 : gn P 9 ≤ 9 := p10
  have key : ∃ t, t < 91 ∧ slS P t = true := by
    by_cases e : gn P 9 ≤ 8
    · refine ⟨0, by omega, ?_⟩
      unfold slS
      have : slI P 0 = some (9, P 9 + (nI 0 + 1)) := by
        unfold slI
        rw [if_neg (show ¬ 0 = 80 by decide), if_neg (show ¬ 0 = 90 by decide), if_pos (show 0 / 10 < mF P ∧ 0 % 10 ≤ 2 from ⟨by omega, by decide⟩), if_neg (show ¬ 0 % 10 = 2 by decide), show 9 + 3 * (0 / 10) = 9 from rfl, show 0 % 10 = 0 from rfl]
        unfold slO
        have v : P 9 + (nI 0 + 1) = nI (gn P 9 + 1) := by rw [p9, show nI 0 + 1 = nI 1 from rfl, nI_add]
        rw [v, if_pos ⟨nI_pos' (by omega), nI_le (b := 9) (by omega) (by omega)⟩]
      rw [this]
    · refine ⟨2, by omega, ?_⟩
      unfold slS
      have : slI P 2 = some (9, P 9 + -1) := by
        unfold slI
        rw [if_neg (show ¬ 2 = 80 by decide), if_neg (show ¬ 2 = 90 by decide), if_pos (show 2 / 10 < mF P ∧ 2 % 10 ≤ 2 from ⟨by omega, by decide⟩), if_pos (show 2 % 10 = 2 by decide), show 9 + 3 * (2 / 10) = 9 from rfl]
        unfold slO
        have v : P 9 + -1 = nI 8 := by rw [p9, show gn P 9 = 8 + 1 by omega, pk_m1]
        rw [v, if_pos (by decide)]
      rw [this]
  obtain ⟨t, t1, t2⟩ := key
  by_cases z : cnt (slS P) 91 = 0
  · rw [cnt_zero.mp z t t1] at t2; cases t2
  · omega
theorem gl_pos : ∀ (n a b : Nat), b ≤ n → 0 < a ∨ 0 < b → 0 < gl n a b := by
  intro n
  induction n with
  | zero => intro a b h1 h2; show 0 < a; omega
  | succ n ih =>
    intro a b h1 h2
    rw [gl]
    by_cases e : b = 0
    · rw [if_pos e]; omega
    · rw [if_neg e]
      exact ih b (a % b) (by have := Nat.mod_lt a (show 0 < b by omega); omega) (Or.inl (by omega))
theorem gl_le : ∀ (n a b M : Nat), a ≤ M → b ≤ M → gl n a b ≤ M := by
  intro n
  induction n with
  | zero => intro a b M h1 h2; exact h1
  | succ n ih =>
    intro a b M h1 h2
    rw [gl]
    by_cases e : b = 0
    · rw [if_pos e]; exact h1
    · rw [if_neg e]
      exact ih b (a % b) M h2 (by have := Nat.mod_lt a (show 0 < b by omega); omega)
theorem c_tp {x1 x2 : Int32} {h : TT} : ∀ (n f a b st : Nat), b ≤ n → n + st < 64 → n < f → a ≤ 100 → b ≤ 100 → f_X7_tellPart_10 f x1 x2 (lN a) (lN b) (nI st) h = f_X7_tellPart_43 x1 x2 (lN (gl n a b)) h := by
  intro n
  induction n with
  | zero =>
    intro f a b st h1 h2 h3 h4 h5
    obtain ⟨f, rfl⟩ : ∃ g, f = g + 1 := ⟨f - 1, by omega⟩
    obtain rfl : b = 0 := by omega
    rw [f_X7_tellPart_10, if_neg (show ¬ (64 : Int32) ≤ nI st from nI_ge (b := 64) (by omega) (by omega)), if_pos ((lg_cmp_eq (lN 0) 0).mpr rfl)]
    rfl
  | succ n ih =>
    intro f a b st h1 h2 h3 h4 h5
    obtain ⟨f, rfl⟩ : ∃ g, f = g + 1 := ⟨f - 1, by omega⟩
    rw [f_X7_tellPart_10, if_neg (show ¬ (64 : Int32) ≤ nI st from nI_ge (b := 64) (by omega) (by omega)), gl]
    by_cases e : b = 0
    · subst e
      rw [if_pos ((lg_cmp_eq (lN 0) 0).mpr rfl), if_pos rfl]
    · have b0 := lN_ne0 e (by omega)
      have := Nat.mod_lt a (show 0 < b by omega)
      rw [if_neg (fun z => b0 ((lg_cmp_eq _ _).mp z)), if_neg b0, pk_lRem (by omega) (by omega) (by omega), nm_eq, nI_1, if_neg e]
      exact ih f b (a % b) (st + 1) (by omega) (by omega) (by omega) h5 (by omega)
theorem m_fr {x1 x3 : Int64} {x5 : Int32} {h : TT} : ∀ (n f a b : Nat), b ≤ n → n < f → a ≤ 100 → b ≤ 100 → f_X8_fraction_6 f x1 x3 x5 (lN a) (lN b) h = if lN (gl n a b) = 0 then none else nm (wrl h 147 3 (x1 / lN (gl n a b))) fun h3 => if lN (gl n a b) = 0 then none else nm (wrl h3 147 4 (x3 / lN (gl n a b))) fun h5 => some (x5, h5) := by
  intro n
  induction n with
  | zero =>
    intro f a b h1 h3 h4 h5
    obtain ⟨f, rfl⟩ : ∃ g, f = g + 1 := ⟨f - 1, by omega⟩
    obtain rfl : b = 0 := by omega
    rw [f_X8_fraction_6, if_pos ((lg_cmp_eq (lN 0) 0).mpr rfl)]
    rfl
  | succ n ih =>
    intro f a b h1 h3 h4 h5
    obtain ⟨f, rfl⟩ : ∃ g, f = g + 1 := ⟨f - 1, by omega⟩
    rw [f_X8_fraction_6, gl]
    by_cases e : b = 0
    · subst e
      rw [if_pos ((lg_cmp_eq (lN 0) 0).mpr rfl), if_pos rfl]
    · have b0 := lN_ne0 e (by omega)
      have := Nat.mod_lt a (show 0 < b by omega)
      rw [if_neg (fun z => b0 ((lg_cmp_eq _ _).mp z)), if_neg b0, pk_lRem (by omega) (by omega) (by omega), nm_eq, if_neg e]
      exact ih f b (a % b) (by omega) (by omega) h5 (by omega)
theorem sct_St (hs : ScT h g) (h2 : StG g s) : ScT h s := by
  rcases h2 with rfl | ⟨P', L', w', c', rfl⟩
  · exact hs
  · exact sct_G (sct_w hs (Or.inl (by unfold Scr; omega)))
theorem St_c (h2 : StG g s) {i j : Nat} (h1 : i ≠ 161) (h3 : ¬ (i = 147 ∧ j = 22)) : s.1 i j = g.1 i j := by
  rcases h2 with rfl | ⟨P', L', w', c', rfl⟩
  · rfl
  · unfold MSt
    rw [setG_o h1]
    unfold lk4
    rw [wr_1, if_neg h3]
theorem St_2 (h2 : StG g s) : s.2 = g.2 := by
  rcases h2 with rfl | ⟨P', L', w', c', rfl⟩ <;> rfl
theorem inv_S (hI : INV h) (hs : ScT h g) (h2 : StG g s) (ht : g.1 0 13 = g.1 147 2) : INV s := by
  refine inv_gen XX_fr hI (sct_St hs h2) ?_
  rw [St_c h2 (by omega) (by omega), St_c h2 (by omega) (by omega)]
  exact ht
theorem inv_ST (hI : INV h) (hs : ScT h g) (h2 : StG g s) {v : Int32} (ht : g.1 0 13 = v) : INV (wr s 147 2 v) := by
  refine inv_gen XX_fr hI (sct_a (sct_St hs h2)) ?_
  rw [wr_row (by omega), St_c h2 (by omega) (by omega), wr_1, if_pos ⟨rfl, rfl⟩]
  exact ht
theorem inv_fr (hI : INV h) (e : h'.1 = h.1) (hf : R_frac h') : INV h' := by
  obtain ⟨h1, h2, h3, h4, h5, h6⟩ := hI
  refine ⟨?_, ⟨?_, fun k hk => ?_⟩, hf, R_rows_fr h4 (fun i _ => by rw [e]), R_txt_fr h5 (fun i _ => by rw [e]), XX_row h6 (fun i _ => by rw [e])⟩
  · unfold R_told; rw [e]; exact h1
  · rw [e]; exact h2.1
  · rw [e]; exact h2.2 k hk
theorem st_odds : ST_odds INV := by
  intro h hI
  have x := hI.2.2.2.2.2
  rcases home x with ⟨a1, a2, -⟩ | ⟨a1, a2, P, L, w, c, H⟩
  · refine ⟨-4, h, h, ?_, ?_, hI⟩
    · unfold f_X7_odds
      rw [if_pos a1]
    · unfold f_X8_odds
      rw [if_pos ib04', tn0, if_pos a2]
  · obtain ⟨B1, g1, R1⟩ := c_own0 H
    obtain ⟨B', k1⟩ := c_odds H 91 KF 0 B1 (by omega) (by decide) ⟨B1, R1, fun _ _ => rfl⟩
    have cs := cS_pos H.1
    have c1 := cnt_le (slS P) 91
    have c2 := cnt_le (slT P) 91
    have ct : cnt (slT P) 91 ≤ cnt (slS P) 91 := cnt_mono (fun t _ z => by
      unfold slS
      unfold slT at z
      cases e : slI P t with
      | none => rw [e] at z; cases z
      | some kv => rfl)
    have b26 : cnt (slS P) 91 ≤ 60 := by
      have hm := mF8 H.1
      have le : ∀ n, cnt (slS P) n ≤ 3 * (n / 10) + min 3 (n % 10) + 8 := by
        intro n
        induction n with
        | zero => rw [cnt]; omega
        | succ n ih =>
          rw [cnt]
          by_cases z : slS P n = true
          · rw [if_pos z]
            have : n = 80 ∨ n = 90 ∨ n % 10 ≤ 2 := by
              unfold slS slI at z
              by_cases z1 : n = 80
              · exact Or.inl z1
              · by_cases z2 : n = 90
                · exact Or.inr (Or.inl z2)
                · by_cases z3 : n / 10 < mF P ∧ n % 10 ≤ 2
                  · exact Or.inr (Or.inr z3.2)
                  · rw [if_neg z1, if_neg z2, if_neg z3] at z; cases z
            omega
          · rw [if_neg z]; omega
      have := le 91
      omega
    have gp := gl_pos 60 (cnt (slT P) 91) (cnt (slS P) 91) b26 (Or.inr cs)
    have gle := gl_le 60 (cnt (slT P) 91) (cnt (slS P) 91) 91 c2 c1
    have g0 := lN_ne0 (n := gl 60 (cnt (slT P) 91) (cnt (slS P) 91)) (by omega) (by omega)
    generalize hU : lN (cnt (slT P) 91) / lN (gl 60 (cnt (slT P) 91) (cnt (slS P) 91)) = U
    generalize hV : lN (cnt (slS P) 91) / lN (gl 60 (cnt (slT P) 91) (cnt (slS P) 91)) = V
    have ctp : f_X7_tellPart (setB h 110 B') (nI (cnt (slT P) 91)) (nI (cnt (slS P) 91)) = some (wrl (wrl (setB h 110 B') 0 14 U) 0 15 V) := by
      unfold f_X7_tellPart
      rw [nI_l (by omega), nI_l (by omega), nm_eq, nm_eq, show (0 : Int32) = nI 0 from rfl, c_tp 60 KF (cnt (slT P) 91) (cnt (slS P) 91) 0 b26 (by omega) (by decide) (by omega) (by omega)]
      unfold f_X7_tellPart_43 f_X7_tellPart_51
      rw [if_pos ((lg_cmp_gt _ _).mpr ((show (0 : Int64) = lN 0 from rfl) ▸ (lN_lt (by omega) (by omega)).mpr gp)), if_neg g0, nI_l (by omega), nI_l (by omega), nm_eq, if_neg g0, nm_eq, hU, hV]
    generalize hg : wrl (wrl (setB h 110 B') 0 14 U) 0 15 V = g at ctp
    have gr : g.1 = (setB h 110 B').1 := by rw [← hg]; rfl
    have e161 : ∀ j, j < 152 → g.1 161 j = mkG P L w c j := H.e0 (by rw [gr, sb_o (by omega)])
    obtain ⟨s', k2, hs'⟩ := m_odds H.1 e161 100 KF 0 g (by omega) (by decide) (Or.inl rfl)
    rw [cS_100 H.1, cT_100 H.1, nI_l (by omega), nI_l (by omega)] at k2
    have frc : f_X8_fraction s' (lN (cnt (slT P) 91)) (lN (cnt (slS P) 91)) (nI (cnt (slS P) 91)) = some (nI (cnt (slS P) 91), wrl (wrl s' 147 3 U) 147 4 V) := by
      unfold f_X8_fraction
      rw [m_fr 60 KF (cnt (slT P) 91) (cnt (slS P) 91) b26 (by decide) (by omega) (by omega), if_neg g0, nm_eq, if_neg g0, nm_eq, hU, hV]
    refine ⟨nI (cnt (slS P) 91), g, wrl (wrl s' 147 3 U) 147 4 V, ?_, ?_, ?_⟩
    · unfold f_X7_odds
      rw [if_neg (by rw [a1]; decide), g1, Option.bind_some]
      refine k1.trans ?_
      rw [ctp]
      rfl
    · unfold f_X8_odds
      rw [if_pos ib04', tn0, gr, sb_o (by omega), if_neg (by rw [a2]; decide)]
      refine k2.trans ?_
      rw [frc]
      rfl
    · have sc : StG (setB h 110 B') (s'.1, (setB h 110 B').2) := by
        rcases hs' with z | ⟨P', L', w', c', z⟩
        · left
          rw [z]
          exact Prod.ext gr rfl
        · right
          refine ⟨P', L', w', c', ?_⟩
          rw [z]
          refine Prod.ext (funext fun a => funext fun j => ?_) rfl
          show (MSt (lk4 g) 608 P' L' w' c').1 a j = (MSt (lk4 (setB h 110 B')) 608 P' L' w' c').1 a j
          unfold MSt
          by_cases z1 : a = 161
          · subst z1
            show (wrow (lk4 g) 161 _).1 161 j = (wrow (lk4 (setB h 110 B')) 161 _).1 161 j
            rw [wrow_1, wrow_1, if_pos rfl, if_pos rfl, lk4_r (by omega), lk4_r (by omega), gr]
          · rw [setG_o z1, setG_o z1]
            unfold lk4
            rw [wr_1, wr_1, gr]
      have i0 : INV (s'.1, (setB h 110 B').2) := inv_S hI (sct_B (ScT.rf h)) sc (by rw [sb_o (by omega), sb_o (by omega)]; exact hI.1)
      refine inv_fr i0 rfl ⟨?_, ?_⟩
      · rw [wrl_2, if_neg (by omega), wrl_2, if_neg (by omega), wrl_2, if_neg (by omega), wrl_2, if_pos ⟨rfl, rfl⟩, St_2 hs', ← hg, wrl_2, if_neg (by omega), wrl_2, if_pos ⟨rfl, rfl⟩]
      · rw [wrl_2, if_neg (by omega), wrl_2, if_neg (by omega), wrl_2, if_pos ⟨rfl, rfl⟩, St_2 hs', ← hg, wrl_2, if_pos ⟨rfl, rfl⟩]
end INV
