def fbV (x : Int32) (y : Nat) : Int32 := if ((x >>> (nI y &&& 31)) &&& (1 : Int32)) = (1 : Int32) then 2 else 1
def Pb (P : Nat → Int32) (x : Int32) : Nat → Nat → Int32
  | 0 => P
  | y + 1 => upd (Pb P x y) (7 + 3 * y) (fbV x y)
section CLS
variable {h : TT} {o b : Nat} {B : Nat → Nat → Int32} {P P' : Nat → Int32} {L : Nat} {w c : Nat → Int32}
theorem geo_a (hz : zF P' = zF P) (hm : mF P' = mF P) : aF P' = aF P := by unfold aF; rw [hz, hm]
theorem geo_c (hz : zF P' = zF P) (hm : mF P' = mF P) : cF P' = cF P := by funext i; unfold cF; rw [hz, hm]
theorem geo_s (hz : zF P' = zF P) : sF P' = sF P := by funext i; unfold sF; rw [hz]
theorem geo_1 (hz : zF P' = zF P) (hm : mF P' = mF P) : p1 P' = p1 P := by funext i; unfold p1; rw [hz, hm]
theorem geo_2 (hz : zF P' = zF P) (hm : mF P' = mF P) : p2 P' = p2 P := by funext i; unfold p2; rw [hz, hm]
theorem geo_b (hz : zF P' = zF P) (hm : mF P' = mF P) {i : Nat} (hf : P' (7 + 3 * cF P i) = P (7 + 3 * cF P i)) : bF P' i = bF P i := by
  unfold bF bfo
  rw [hz, hm]
  show (if P' (7 + 3 * cF P i) = 2 then _ else _) = if P (7 + 3 * cF P i) = 2 then _ else _
  rw [hf]
theorem geo_h (hz : zF P' = zF P) (hm : mF P' = mF P) {i : Nat} (hf : P' (7 + 3 * cF P i) = P (7 + 3 * cF P i)) : hF P' i = hF P i := by
  unfold hF bhi
  rw [hz, hm]
  show (if P' (7 + 3 * cF P i) = 2 then _ else _) = if P (7 + 3 * cF P i) = 2 then _ else _
  rw [hf]
theorem up_z {k : Nat} {v : Int32} (hk : ∀ z, 8 + 3 * z ≠ k) : zF (upd P k v) = zF P := by
  funext z
  unfold zF gn
  rw [pk_un (hk z)]
theorem up_m {k : Nat} {v : Int32} (hk : 6 ≠ k) : mF (upd P k v) = mF P := by
  unfold mF gn
  rw [pk_un hk]
theorem RS.par {B' : Nat → Nat → Int32} (R : RS B P) (hz : zF P' = zF P) (hm : mF P' = mF P) (h7 : ∀ y, P' (7 + 3 * y) = P (7 + 3 * y)) (h8 : ∀ y, P' (8 + 3 * y) = P (8 + 3 * y)) (e0 : B' 0 0 = B 0 0) (e1 : B' 1 = B 1) (e30 : B' 3 0 = B 3 0) (e03 : B' 0 3 = P' 5) (e2 : ∀ k, k < 4 → B' 2 k = P' k) (e31 : B' 3 1 = P' 6) (e32 : B' 3 2 = B 3 2) (e33 : B' 3 3 = P' 4) (e4 : B' 4 = B 4) (e5 : B' 5 = B 5) (e6 : ∀ y, y < mF P → B' 6 y = P' (9 + 3 * y)) (eg : ∀ a, 11 ≤ a → B' a = B a) : RS B' P' := by
  obtain ⟨a1, a2, a3, a4, a5, a6, a7, a8, a9, a10⟩ := R
  refine ⟨e0.trans a1, by rw [e1]; exact a2, e30.trans a3, e03, e2, e31, ?_, e33, fun y hy => ?_, fun i hi => ?_⟩
  · rw [e32, a7, geo_a hz hm]
  · rw [hm] at hy
    obtain ⟨b1, b2, b3, b4⟩ := a9 y hy
    rw [e4, e5, eg 11 (by omega), h7, h8, geo_s hz]
    exact ⟨b1, b2, e6 y hy, b4⟩
  · rw [geo_a hz hm] at hi
    rw [eg 12 (by omega), eg 13 (by omega), eg 14 (by omega), eg 15 (by omega), eg 16 (by omega), geo_c hz hm, geo_1 hz hm, geo_2 hz hm, geo_b hz hm (h7 _), geo_h hz hm (h7 _)]
    exact a10 i hi
theorem WF.par (hW : WF P) (hz : zF P' = zF P) (hm : mF P' = mF P) (h6 : ∀ k, k < 7 → P' k = nI (gn P' k)) (g0 : gn P' 0 ≤ 30) (g1 : gn P' 1 ≤ 9) (g2 : gn P' 2 ≤ 40) (g3 : gn P' 3 ≤ 9) (g4 : gn P' 4 ≤ 9) (h8 : ∀ y, P' (8 + 3 * y) = P (8 + 3 * y)) (h9 : ∀ y, y < mF P → P' (9 + 3 * y) = nI (gn P' (9 + 3 * y)) ∧ gn P' (9 + 3 * y) ≤ 9) : WF P' := by
  refine ⟨by rw [hz, hm]; exact hW.1, h6, g0, g1, g2, g3, g4, fun y hy => ?_⟩
  rw [hm] at hy
  refine ⟨?_, h9 y hy⟩
  rw [h8, hz]
  exact (hW.2.2.2.2.2.2.2 y hy).1
theorem gn_up {k : Nat} {v : Int32} {j : Nat} (hj : j ≠ k) : gn (upd P k v) j = gn P j := by unfold gn; rw [pk_un hj]
theorem gn_us {k : Nat} {v : Int32} : gn (upd P k v) k = v.toNatClampNeg := by unfold gn; rw [pk_us]
theorem WF.up (hW : WF P) {k n : Nat} (hk : k = 4 ∨ k = 2 ∨ ∃ y, y < mF P ∧ k = 9 + 3 * y) (h4 : k = 4 → n ≤ 9) (h2 : k = 2 → n ≤ 40) (h9 : (∃ y, y < mF P ∧ k = 9 + 3 * y) → n ≤ 9) (hn : n < 2 ^ 31) : WF (upd P k (nI n)) := by
  have hm := mF8 hW
  have hz : zF (upd P k (nI n)) = zF P := up_z (fun z => by rcases hk with h | h | ⟨y, -, h⟩ <;> omega)
  have hmm : mF (upd P k (nI n)) = mF P := up_m (by rcases hk with h | h | ⟨y, -, h⟩ <;> omega)
  have val : ∀ j, P j = nI (gn P j) → upd P k (nI n) j = nI (gn (upd P k (nI n)) j) := fun j hj => by
    by_cases e : j = k
    · subst e
      rw [gn_us, pk_us, nI_clamp hn]
    · rw [gn_up e, pk_un e]; exact hj
  have bnd : ∀ j m, gn P j ≤ m → (j = k → n ≤ m) → gn (upd P k (nI n)) j ≤ m := fun j m h1 h2 => by
    by_cases e : j = k
    · subst e
      rw [gn_us, nI_clamp hn]; exact h2 rfl
    · rw [gn_up e]; exact h1
  obtain ⟨w1, w2, w3, w4, w5, w6, w7, w8⟩ := hW
  refine WF.par ⟨w1, w2, w3, w4, w5, w6, w7, w8⟩ hz hmm (fun j hj => val j (w2 j hj)) (bnd 0 30 w3 (by rcases hk with h | h | ⟨y, -, h⟩ <;> omega)) (bnd 1 9 w4 (by rcases hk with h | h | ⟨y, -, h⟩ <;> omega)) (bnd 2 40 w5 (fun e => h2 e.symm)) (bnd 3 9 w6 (by rcases hk with h | h | ⟨y, -, h⟩ <;> omega)) (bnd 4 9 w7 (fun e => h4 e.symm)) (fun y => pk_un (by rcases hk with h | h | ⟨z, -, h⟩ <;> omega)) (fun y hy => ⟨val _ (w8 y hy).2.1, bnd _ 9 (w8 y hy).2.2 (fun e => h9 ⟨y, hy, e.symm⟩)⟩)
theorem RS.min (R : RS B P) (x : Int32) : RS (upB B 3 3 x) (upd P 4 x) := by
  refine R.par (up_z (fun z => by omega)) (up_m (by omega)) (fun y => pk_un (by omega)) (fun y => pk_un (by omega)) (by rw [upB_r (by omega)]) (upB_r (by omega)) (by rw [upB_1, if_neg (by omega)]) (by rw [upB_r (by omega), pk_un (by omega)]; exact R.2.2.2.1) (fun k hk => by rw [upB_r (by omega), pk_un (by omega)]; exact R.2.2.2.2.1 k hk) (by rw [upB_1, if_neg (by omega), pk_un (by omega)]; exact R.2.2.2.2.2.1) (by rw [upB_1, if_neg (by omega)]) (by rw [upB_1, if_pos ⟨rfl, rfl⟩, pk_us]) (upB_r (by omega)) (upB_r (by omega)) (fun y hy => by rw [upB_r (by omega), pk_un (by omega)]; exact (R.2.2.2.2.2.2.2.2.1 y hy).2.2.1) (fun a ha => upB_r (by omega))
theorem RS.cold (R : RS B P) (x : Int32) : RS (upB B 2 2 x) (upd P 2 x) := by
  refine R.par (up_z (fun z => by omega)) (up_m (by omega)) (fun y => pk_un (by omega)) (fun y => pk_un (by omega)) (by rw [upB_r (by omega)]) (upB_r (by omega)) (by rw [upB_r (by omega)]) (by rw [upB_r (by omega), pk_un (by omega)]; exact R.2.2.2.1) (fun k hk => ?_) (by rw [upB_r (by omega), pk_un (by omega)]; exact R.2.2.2.2.2.1) (by rw [upB_r (by omega)]) (by rw [upB_r (by omega), pk_un (by omega)]; exact R.2.2.2.2.2.2.2.1) (upB_r (by omega)) (upB_r (by omega)) (fun y hy => by rw [upB_r (by omega), pk_un (by omega)]; exact (R.2.2.2.2.2.2.2.2.1 y hy).2.2.1) (fun a ha => upB_r (by omega))
  rw [upB_1, upd_cases]
  by_cases e : k = 2
  · rw [if_pos ⟨rfl, e⟩, if_pos e]
  · rw [if_neg (fun q => e q.2), if_neg e]
    exact R.2.2.2.2.1 k hk
theorem RS.lean (R : RS B P) (x : Int32) (z : Nat) : RS (upB B 6 z x) (upd P (9 + 3 * z) x) := by
  refine R.par (up_z (fun z => by omega)) (up_m (by omega)) (fun y => pk_un (by omega)) (fun y => pk_un (by omega)) (by rw [upB_r (by omega)]) (upB_r (by omega)) (by rw [upB_r (by omega)]) (by rw [upB_r (by omega), pk_un (by omega)]; exact R.2.2.2.1) (fun k hk => by rw [upB_r (by omega), pk_un (by omega)]; exact R.2.2.2.2.1 k hk) (by rw [upB_r (by omega), pk_un (by omega)]; exact R.2.2.2.2.2.1) (by rw [upB_r (by omega)]) (by rw [upB_r (by omega), pk_un (by omega)]; exact R.2.2.2.2.2.2.2.1) (upB_r (by omega)) (upB_r (by omega)) (fun y hy => ?_) (fun a ha => upB_r (by omega))
  rw [upB_1, upd_cases]
  by_cases e : y = z
  · rw [if_pos ⟨rfl, e⟩, if_pos (by omega)]
  · rw [if_neg (fun q => e q.2), if_neg (by omega)]
    exact (R.2.2.2.2.2.2.2.2.1 y hy).2.2.1
theorem Wz7 (y : Nat) (v : Int32) : zF (upd P (7 + 3 * y) v) = zF P := up_z (fun z => by omega)
theorem Wm7 (y : Nat) (v : Int32) : mF (upd P (7 + 3 * y) v) = mF P := up_m (by omega)
theorem WF.form (hW : WF P) (y : Nat) (v : Int32) : WF (upd P (7 + 3 * y) v) := by
  obtain ⟨w1, w2, w3, w4, w5, w6, w7, w8⟩ := hW
  refine WF.par ⟨w1, w2, w3, w4, w5, w6, w7, w8⟩ (Wz7 y v) (Wm7 y v) (fun k hk => by rw [gn_up (by omega), pk_un (by omega)]; exact w2 k hk) (by rw [gn_up (by omega)]; exact w3) (by rw [gn_up (by omega)]; exact w4) (by rw [gn_up (by omega)]; exact w5) (by rw [gn_up (by omega)]; exact w6) (by rw [gn_up (by omega)]; exact w7) (fun z => pk_un (by omega)) (fun z hz => by rw [gn_up (by omega), pk_un (by omega)]; exact (w8 z hz).2)
theorem upd_id {f : Nat → Int32} {k : Nat} {x : Int32} (e : f k = x) : upd f k x = f := by
  funext j
  rw [upd_cases]
  by_cases q : j = k
  · rw [if_pos q, q, e]
  · rw [if_neg q]
theorem RS.form (hW : WF P) (R : RS B P) {y : Nat} (hy : y < mF P) (v : Int32) : ∃ B', f_X0_joinCourse (setB h o (upB B 4 y v)) o (nI y) = some (setB h o B') ∧ RS B' (upd P (7 + 3 * y) v) := by
  obtain ⟨a1, a2, a3, a4, a5, a6, a7, a8, a9, a10⟩ := R
  have hz := Wz7 (P := P) y v
  have hm := Wm7 (P := P) y v
  have ga := geo_a hz hm
  have gs := geo_s hz
  have gc := geo_c hz hm
  have g1 := geo_1 hz hm
  have g2 := geo_2 hz hm
  have hW' := hW.form y v
  obtain ⟨B', e1, e2, e3, e4⟩ := c_joinC (h := h) (o := o) (B := upB B 4 y v) hW' (y := y) (by rw [hm]; exact hy) (by rw [upB_1, if_pos ⟨rfl, rfl⟩, pk_us]) (by rw [upB_r (by omega), ga]; exact a7) (by rw [upB_r (by omega), gs]; exact (a9 y hy).2.2.2) (by rw [upB_r (by omega), pk_un (by omega)]; exact (a9 y hy).2.1)
  rw [gs, hz] at e3 e4
  refine ⟨B', e1, ?_⟩
  have br : ∀ a, a ≠ 15 → a ≠ 16 → a ≠ 4 → B' a = B a := fun a h1 h2 h3 => by rw [e2 a h1 h2, upB_r h3]
  refine ⟨by rw [br 0 (by omega) (by omega) (by omega)]; exact a1, by rw [br 1 (by omega) (by omega) (by omega)]; exact a2, by rw [br 3 (by omega) (by omega) (by omega)]; exact a3, by rw [br 0 (by omega) (by omega) (by omega), pk_un (by omega)]; exact a4, fun k hk => by rw [br 2 (by omega) (by omega) (by omega), pk_un (by omega)]; exact a5 k hk, by rw [br 3 (by omega) (by omega) (by omega), pk_un (by omega)]; exact a6, by rw [br 3 (by omega) (by omega) (by omega), ga]; exact a7, by rw [br 3 (by omega) (by omega) (by omega), pk_un (by omega)]; exact a8, fun z hz' => ?_, fun i hi => ?_⟩
  · rw [hm] at hz'
    obtain ⟨b1, b2, b3, b4⟩ := a9 z hz'
    rw [e2 4 (by omega) (by omega), br 5 (by omega) (by omega) (by omega), br 6 (by omega) (by omega) (by omega), br 11 (by omega) (by omega) (by omega), gs, pk_un (show 8 + 3 * z ≠ 7 + 3 * y by omega), pk_un (show 9 + 3 * z ≠ 7 + 3 * y by omega), upB_1, upd_cases]
    refine ⟨?_, b2, b3, b4⟩
    by_cases e : z = y
    · rw [if_pos ⟨rfl, e⟩, if_pos (by omega)]
    · rw [if_neg (fun q => e q.2), if_neg (by omega)]; exact b1
  · rw [ga] at hi
    obtain ⟨b1, b2, b3, b4, b5⟩ := a10 i hi
    rw [br 12 (by omega) (by omega) (by omega), br 13 (by omega) (by omega) (by omega), br 14 (by omega) (by omega) (by omega), gc, g1, g2]
    refine ⟨b1, b2, b3, ?_⟩
    by_cases e : cF P i = y
    · have l := cF_lo (P := P) (i := i)
      have u := cF_hi hW hi
      rw [e] at l u
      exact e3 i l u
    · have q : i < sF P y ∨ sF P y + zF P y ≤ i := by
        by_cases q1 : i < sF P y
        · exact Or.inl q1
        · by_cases q2 : sF P y + zF P y ≤ i
          · exact Or.inr q2
          · exact absurd (cF_un hy (by omega) (by omega)) e
      rw [(e4 i q).1, (e4 i q).2, upB_r (by omega), upB_r (by omega), geo_b hz hm (pk_un (by omega)), geo_h hz hm (pk_un (by omega))]
      exact ⟨b4, b5⟩
theorem Pb_W (hW : WF P) (x : Int32) : ∀ y, WF (Pb P x y) ∧ zF (Pb P x y) = zF P ∧ mF (Pb P x y) = mF P := by
  intro y
  induction y with
  | zero => exact ⟨hW, rfl, rfl⟩
  | succ y ih => exact ⟨ih.1.form y _, (Wz7 y _).trans ih.2.1, (Wm7 y _).trans ih.2.2⟩
theorem c_bend2 (hW : WF P) (x : Int32) : ∀ (d f y : Nat) (B : Nat → Nat → Int32), RS B (Pb P x y) → y + d = mF P → d < f → ∃ B', f_X0_bend_2 o f x (nI y) (setB h o B) = some (setB h o B') ∧ RS B' (Pb P x (mF P)) := by
  have hm := mF8 hW
  intro d
  induction d with
  | zero =>
    intro f y B R hy hf
    obtain ⟨f, rfl⟩ : ∃ g, f = g + 1 := ⟨f - 1, by omega⟩
    obtain ⟨W1, W2, W3⟩ := Pb_W hW x y
    rw [f_X0_bend_2, sb_3, R.2.2.2.2.2.1, P6 W1, W3, if_pos (nI_le (by omega) (by omega))]
    exact ⟨B, rfl, by rw [show mF P = y by omega]; exact R⟩
  | succ d ih =>
    intro f y B R hy hf
    obtain ⟨f, rfl⟩ : ∃ g, f = g + 1 := ⟨f - 1, by omega⟩
    obtain ⟨W1, W2, W3⟩ := Pb_W hW x y
    have hyy : y < mF (Pb P x y) := by omega
    have step : ∀ v : Int32, v = fbV x y → ∃ B', f_X0_bend_27 o (f_X0_bend_2 o f) x (nI y) v (setB h o B) = some (setB h o B') ∧ RS B' (Pb P x (mF P)) := fun v hv => by
      unfold f_X0_bend_27 f_X0_bend_59
      rw [if_pos (inb_nI (by omega) (by decide)), sb_4, nI_clamp (by omega), nI_1]
      by_cases e : B 4 y = v
      · rw [if_pos e]
        refine ih f (y + 1) B ?_ (by omega) (by omega)
        have : Pb P x (y + 1) = Pb P x y := upd_id (by rw [← (R.2.2.2.2.2.2.2.2.1 y hyy).1, e, hv])
        rw [this]; exact R
      · rw [if_neg e, if_pos (inb_nI (by omega) (by decide)), show o + 3 + 1 = o + 4 from rfl, sb_w (by omega), nm_eq]
        obtain ⟨B1, e1, R1⟩ := R.form (h := h) (o := o) W1 hyy v
        rw [e1, Option.bind_some]
        exact ih f (y + 1) B1 (by rw [hv] at R1; exact R1) (by omega) (by omega)
    rw [f_X0_bend_2, sb_3, R.2.2.2.2.2.1, P6 W1, W3, if_neg (nI_ge (by omega) (by omega))]
    by_cases e : ((x >>> (nI y &&& 31)) &&& (1 : Int32)) = (1 : Int32)
    · rw [if_pos e]
      exact step 2 (if_pos e).symm
    · rw [if_neg e]
      exact step 1 (if_neg e).symm
theorem c_bend (hW : WF P) (R : RS B P) (x : Int32) : ∃ B', f_X0_bend (setB h o B) o x = some (setB h o B') ∧ RS B' (Pb P x (mF P)) :=
  c_bend2 hW x (mF P) KF 0 B R (by omega) (by have := KF_ge; have := mF8 hW; omega)
theorem ls_cut {p : Nat} (hpa : p < aF P) (hw : w p = -9) (hc : ¬ c p = 1) (y : Nat) : lsN P w (upd c p 1) y = lsN P w c y + (if cF P p = y then 1 else 0) := by
  unfold lsN
  have ne : ∀ k, k ≠ p → lsB P w (upd c p 1) y k = lsB P w c y k := fun k hk => by unfold lsB; rw [pk_un hk]
  have ni : lsB P w c y p = false := by unfold lsB fB; rw [decide_eq_true hw, decide_eq_false hc]; simp
  by_cases e : cF P p = y
  · rw [if_pos e]
    refine cnt_upd (j := p) ni ?_ ne hpa
    unfold lsB
    rw [decide_eq_true e, pk_us]; simp
  · rw [if_neg e]
    refine cnt_congr (fun k hk => ?_)
    by_cases e2 : k = p
    · rw [e2, ni]
      unfold lsB
      rw [decide_eq_false e]; rfl
    · exact ne k e2
theorem c_cut (hW : WF P) (R : RS B P) (D : RD B P L w c) (A : AW P L w c) (hL : L = aF P) {p : Nat} (hp : p < zF P 0) (hw : w p = -9) (hc : ∀ i, ¬ c i = 1) : ∃ B', f_X0_cutOut (setB h o B) o (nI p) = some (setB h o B') ∧ RS B' P ∧ RD B' P L (SE P L (upd c p 1) w) (upd c p 1) ∧ AW P L (SE P L (upd c p 1) w) (upd c p 1) := by
  have h60 := hW.a60
  have hm := mF8 hW
  have m1 := hW.1.1
  have s0 := sF_all (P := P) (y := 0) (by omega)
  have s00 : sF P 0 = 0 := rfl
  have hpa : p < aF P := by omega
  have hcp : cF P p = 0 := cF_un (by omega) (by omega) (by omega)
  obtain ⟨i12, -⟩ := R.2.2.2.2.2.2.2.2.2 p hpa
  unfold f_X0_cutOut
  rw [sb_0, D.1, f_bel (by omega) (by omega), Option.bind_some, if_neg (bI_t (decide_eq_true (by omega))), if_pos (inb_nI (by omega) (by decide)), nI_clamp (by omega), sb_w (by omega), nm_eq, sb_w0, nm_eq, if_pos (inb_nI (by omega) (by decide)), sb_12, sb_10]
  have q12 : upB (upB B 7 p 3) 0 6 (nI p) 12 p = nI 0 := by rw [upB_r (by omega), upB_r (by omega), i12, hcp]
  have q10 : upB (upB B 7 p 3) 0 6 (nI p) 10 0 = nI (lsN P w c 0) := by rw [upB_r (by omega), upB_r (by omega)]; exact D.2.2.2.2.2 0 (by omega)
  rw [q12, if_pos (inb_nI (by omega) (by decide)), if_pos (inb_nI (by omega) (by decide)), nI_clamp (by omega), q10, nI_1, sb_w (by omega), nm_eq]
  generalize hB1 : upB (upB (upB B 7 p 3) 0 6 (nI p)) 10 0 (nI (lsN P w c 0 + 1)) = B1
  have br : ∀ a, a ≠ 0 → a ≠ 7 → a ≠ 10 → B1 a = B a := fun a h1 h2 h3 => by rw [← hB1, upB_r h3, upB_r h1, upB_r h2]
  have R1 : RS B1 P := R.fr (by rw [← hB1, upB_r (by omega), upB_1, if_neg (by omega), upB_r (by omega)]) (by rw [← hB1, upB_r (by omega), upB_1, if_neg (by omega), upB_r (by omega)]) (fun a ha => br a (by omega) (by omega) (by omega))
  have D1 : RD B1 P L w (upd c p 1) := by
    refine ⟨?_, ?_, ?_, fun k hk => ⟨?_, ?_⟩, fun j hj => ?_, fun y hy => ?_⟩
    · rw [← hB1, upB_r (by omega), upB_1, if_neg (by omega), upB_r (by omega)]; exact D.1
    · rw [← hB1, upB_r (by omega), upB_1, if_neg (by omega), upB_r (by omega)]; exact D.2.1
    · right
      refine ⟨p, by omega, pk_us, ?_, fun i hi => ?_⟩
      · rw [← hB1, upB_r (by omega), upB_1, if_pos ⟨rfl, rfl⟩]
      · rw [upd_cases] at hi
        by_cases e : i = p
        · exact e
        · rw [if_neg e] at hi
          exact absurd hi (hc i)
    · rw [← hB1, upB_r (by omega), upB_r (by omega), upB_1]
      unfold sV
      by_cases e : k = p
      · rw [if_pos ⟨rfl, e⟩, e, if_pos (by omega), if_pos hw, pk_us, if_pos rfl]
      · rw [if_neg (fun q => e q.2), (D.2.2.2.1 k hk).1, pk_un e]
        rfl
    · rw [br 8 (by omega) (by omega) (by omega)]; exact (D.2.2.2.1 k hk).2
    · rw [br 9 (by omega) (by omega) (by omega)]; exact D.2.2.2.2.1 j hj
    · rw [← hB1, upB_1, ls_cut hpa hw (hc p) y, hcp]
      by_cases e : y = 0
      · rw [if_pos ⟨rfl, e⟩, if_pos e.symm, e]
      · rw [if_neg (fun q => e q.2), if_neg (fun q => e q.symm), upB_r (by omega), upB_r (by omega), D.2.2.2.2.2 y hy, Nat.add_zero]
  have A1 : AW P L w (upd c p 1) := by
    refine ⟨A.1, fun i hi => ⟨(A.2.1 i hi).1, ?_⟩, fun i hi => ?_⟩
    · rw [pk_un (by omega)]; exact hc i
    · rw [upd_cases] at hi
      by_cases e : i = p
      · rw [e]; exact ⟨hw, hp, hL⟩
      · rw [if_neg e] at hi
        exact absurd hi (hc i)
  obtain ⟨B2, e1, R2, D2, A2⟩ := c_settle (h := h) (o := o) hW R1 D1 A1
  rw [e1]
  exact ⟨B2, rfl, R2, D2, A2⟩
end CLS
