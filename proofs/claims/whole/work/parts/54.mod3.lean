/-- one block at most is cut -/
def CU (c : Nat → Int32) : Prop := ∀ i j, c i = 1 → c j = 1 → i = j
def loW (P c : Nat → Int32) : Nat → Nat → (Nat → Int32) → Nat → Int32
  | 0, _, w => w
  | k + 1, L, w => loW P c k (L + 1) (SE P (L + 1) c w)
def fsN (w : Nat → Int32) : Nat → Nat → Nat → Nat
  | 0, _, x => x
  | k + 1, i, x => fsN w k (i + 1) (if w i = -9 then x else if x = 100 then i else if w x ≤ w i then x else i)
def w0 : Nat → Int32 := fun _ => -9
def c0 : Nat → Int32 := fun _ => 0
/-- what is slumped when all are laid anew -/
def buW (P : Nat → Int32) (L : Nat) : Nat → Int32 := loW P c0 L 0 w0
section MODG
variable {h : TT} {b : Nat} {P : Nat → Int32} {L : Nat} {w c : Nat → Int32}
theorem bI_t {x : Bool} (h : x = true) : ¬ bI x = 0 := fun q => by rw [h] at q; exact n1_0 q
theorem bI_f {x : Bool} (h : x = false) : bI x = 0 := by rw [h]; rfl
theorem c0_1 (i : Nat) : ¬ c0 i = 1 := show ¬ (0 : Int32) = 1 by decide
theorem c0_CU : CU c0 := fun i j h => absurd h (c0_1 i)
theorem pul_b (hW : WF P) (i : Nat) : gn P (9 + 3 * cF P i) * gn P 3 ≤ 9 * 9 := Nat.mul_le_mul (hW.2.2.2.2.2.2.2 _ (cF_lt hW)).2.2 hW.2.2.2.2.2.1
theorem m_pull (ok : MOK h b) (hW : WF P) (hL : L ≤ aF P) (hC : CU c) {i : Nat} (hi : i < aF P) : f_X8_pullOf (MSt h b P L w c) (nI i) = some (nI (puN P L w c i)) := by
  have h60 := hW.a60
  have hc := cF_lt hW (i := i)
  have hm := mF8 hW
  have pb := pul_b hW i
  unfold f_X8_pullOf
  rw [m_crs ok hW hi, Option.bind_some, m_lean ok hW hc, Option.bind_some, v_k (x := 3) ok hW 3 (by omega) rfl, Option.bind_some, m_above ok hW hL hi, Option.bind_some]
  simp only [nm]
  rw [pk_mul, show (2 : Int32) = nI 2 from rfl, pk_div (by omega) (by omega) (by omega), nI_add, m_rests ok hW hi, Option.bind_some]
  unfold puN
  by_cases e : cF P i = 0
  · rw [if_pos (by rw [p1_0 e]; rfl), if_neg (fun q => q.1 e)]
    rfl
  · have q1 := p1_c hW hi e
    have q2 := p2_c hW hi e
    have ec : cv (p1 P i) = nI (p1 P i) := if_neg (by omega)
    have r52 : ∀ a : Nat, f_X8_pullOf_52 (MSt h b P L w c) (nI i) (nI a) (nI (gn P (9 + 3 * cF P i) * gn P 3 / 2 + abN P L w i)) = some (nI (gn P (9 + 3 * cF P i) * gn P 3 / 2 + abN P L w i + a + (if p2 P i ≠ p1 P i ∧ c (p2 P i) = 1 then 2 else 0))) := fun a => by
      unfold f_X8_pullOf_52
      simp only [nm]
      rw [nI_add, m_too ok hW hi e, Option.bind_some, m_rests ok hW hi, Option.bind_some, ec]
      by_cases e2 : p2 P i = p1 P i
      · rw [if_pos (by rw [e2]), if_neg (fun q => q.1 e2)]
        exact congrArg some (nI_add _ 0)
      · rw [if_neg (fun q => e2 ((nI_eq (by omega) (by omega)).mp q)), Option.bind_some, m_cut ok (by omega), Option.bind_some]
        by_cases e3 : c (p2 P i) = 1
        · rw [if_neg (bI_t (decide_eq_true e3)), if_pos ⟨e2, e3⟩]
          exact congrArg some (nI_add _ 2)
        · rw [if_pos (bI_f (decide_eq_false e3)), if_neg (fun q => e3 q.2)]
          exact congrArg some (nI_add _ 0)
    rw [ec, if_neg (nI_m9 (by omega)), Option.bind_some, m_cut ok (by omega), Option.bind_some]
    by_cases e3 : c (p1 P i) = 1
    · rw [if_neg (bI_t (decide_eq_true e3)), if_pos ⟨e, Or.inl e3⟩]
      refine (r52 2).trans ?_
      rw [if_neg (fun q => q.1 (hC _ _ q.2 e3))]
    · rw [if_pos (bI_f (decide_eq_false e3))]
      refine (r52 0).trans ?_
      by_cases e4 : c (p2 P i) = 1
      · rw [if_pos ⟨fun q => e3 (by rw [← q]; exact e4), e4⟩, if_pos ⟨e, Or.inr e4⟩]
      · rw [if_neg (fun q => e4 q.2), if_neg (fun q => by rcases q.2 with q | q <;> contradiction)]
theorem ab_le {i : Nat} : abN P L w i ≤ aF P := cnt_le _ _
theorem ho_b (hW : WF P) (i : Nat) : hoN P L w c i < 2 ^ 31 := by
  unfold hoN snN
  have := hW.2.2.1
  have := hW.2.2.2.1
  have : min (gn P 0) (gn P 4 * (L - 1 - i) * gn P 2 / 20) ≤ gn P 0 := Nat.min_le_left _ _
  split <;> split <;> split <;> split <;> omega
theorem pu_b (hW : WF P) (i : Nat) : puN P L w c i < 2 ^ 31 := by
  unfold puN
  have := pul_b hW i
  have := ab_le (P := P) (L := L) (w := w) (i := i)
  have := hW.a60
  split <;> omega
theorem m_slumps (ok : MOK h b) (hW : WF P) (hL : L ≤ aF P) (hC : CU c) {i : Nat} (hi : i < L) : f_X8_slumpsNow (MSt h b P L w c) (nI i) = some (bI (decide (hoN P L w c i < puN P L w c i) || (decide (cF P i ≠ 0) && (fB w (p1 P i) || fB w (p2 P i))))) := by
  have h60 := hW.a60
  unfold f_X8_slumpsNow
  rw [m_pull ok hW hL hC (by omega), Option.bind_some, m_hold ok hW hL hi, Option.bind_some]
  by_cases e1 : hoN P L w c i < puN P L w c i
  · rw [if_pos (nI_lt e1 (pu_b hW i)), decide_eq_true e1, Bool.true_or]
    rfl
  · rw [if_neg (nI_nlt (by omega) (ho_b hW i)), decide_eq_false e1, Bool.false_or, m_rests ok hW (by omega), Option.bind_some]
    by_cases e : cF P i = 0
    · rw [if_pos (by rw [p1_0 e]; rfl), decide_eq_false (fun q => q e), Bool.false_and]
      rfl
    · have q1 := p1_c hW (k := i) (by omega) e
      have q2 := p2_c hW (k := i) (by omega) e
      have ec : cv (p1 P i) = nI (p1 P i) := if_neg (by omega)
      rw [ec, if_neg (nI_m9 (by omega)), Option.bind_some, m_slumped ok (by omega), Option.bind_some, m_too ok hW (by omega) e, Option.bind_some, m_slumped ok (by omega), Option.bind_some, decide_eq_true e, Bool.true_and]
      cases fB w (p1 P i) with
      | true => rw [if_neg (bI_t rfl)]; rfl
      | false =>
        rw [if_pos bIf, Bool.false_or]
        cases fB w (p2 P i) with
        | true => rw [if_neg (bI_t rfl)]; rfl
        | false => rw [if_pos bIf]; rfl
theorem m_pass (ok : MOK h b) (hW : WF P) (hL : L ≤ aF P) (hC : CU c) {k2 : Int32 → TT → Option TT} : ∀ (k f i : Nat) (w : Nat → Int32) (fl : Int32), i + k = L → k < f → f_X8_settles_10 k2 f fl (nI i) (MSt h b P L w c) = k2 (psM P L c k i w fl).2 (MSt h b P L (psM P L c k i w fl).1 c) := by
  have h60 := hW.a60
  intro k
  induction k with
  | zero =>
    intro f i w fl hi hf
    obtain ⟨f, rfl⟩ : ∃ g, f = g + 1 := ⟨f - 1, by omega⟩
    rw [f_X8_settles_10, v_L ok, Option.bind_some, if_pos (nI_le (by omega) (by omega))]
    rfl
  | succ k ih =>
    intro f i w fl hi hf
    obtain ⟨f, rfl⟩ : ∃ g, f = g + 1 := ⟨f - 1, by omega⟩
    have nx : ∀ (w : Nat → Int32) (fl : Int32), f_X8_settles_54 k2 (f_X8_settles_10 k2 f) fl (nI i) (MSt h b P L w c) = k2 (psM P L c k (i + 1) w fl).2 (MSt h b P L (psM P L c k (i + 1) w fl).1 c) := fun w fl => by
      unfold f_X8_settles_54
      rw [nI_1]
      exact ih f (i + 1) w fl (by omega) (by omega)
    have hg : gB P L w c i = (sB L w c i && (decide (hoN P L w c i < puN P L w c i) || (decide (cF P i ≠ 0) && (fB w (p1 P i) || fB w (p2 P i))))) := rfl
    rw [f_X8_settles_10, v_L ok, Option.bind_some, if_neg (nI_ge (by omega) (by omega)), m_sound ok (by omega) (by omega), Option.bind_some, m_slumps ok hW hL hC (by omega), Option.bind_some, Option.bind_some, nI_p (show L ≠ 0 by omega), put_w ok (by omega), Option.bind_some, psM]
    cases e1 : sB L w c i with
    | false =>
      rw [if_pos bIf, nx, if_neg (by rw [hg, e1]; simp)]
    | true =>
      rw [if_neg (bI_t rfl)]
      cases e2 : (decide (hoN P L w c i < puN P L w c i) || (decide (cF P i ≠ 0) && (fB w (p1 P i) || fB w (p2 P i)))) with
      | false => rw [if_pos bIf, nx, if_neg (by rw [hg, e1, e2]; simp)]
      | true => rw [if_neg (bI_t rfl), nx, if_pos (by rw [hg, e1, e2]; rfl)]
theorem m_set2 (ok : MOK h b) (hW : WF P) (hL : L ≤ aF P) (hC : CU c) : ∀ (n : Nat) (fl : Int32) (w : Nat → Int32), f_X8_settles_2 n fl (MSt h b P L w c) = (seM P L c n fl w).map (fun w' => MSt h b P L w' c) := by
  intro n
  induction n with
  | zero => intro fl w; rfl
  | succ n ih =>
    intro fl w
    rw [f_X8_settles_2, seM]
    by_cases e : fl = 0
    · rw [if_pos e, if_pos e]; rfl
    · rw [if_neg e, if_neg e, show (0 : Int32) = nI 0 from rfl]
      refine (m_pass ok hW hL hC L KF 0 w 0 (by omega) (by have := KF_ge; have := hW.a60; omega)).trans ?_
      exact ih _ _
theorem m_settles (ok : MOK h b) (hW : WF P) (hL : L ≤ aF P) (hC : CU c) (w : Nat → Int32) : f_X8_settles (MSt h b P L w c) = some (MSt h b P L (SE P L c w) c) := by
  unfold f_X8_settles
  rw [m_set2 ok hW hL hC, seM_SE (by have := hW.a60; omega)]
  rfl
theorem m_lays2 (ok : MOK h b) (hW : WF P) (hC : CU c) {n : Nat} (hn : n < 2 ^ 31) : ∀ (d f k L : Nat) (w : Nat → Int32), k + d = n → d < f → L + d ≤ aF P → f_X8_lays_2 f (nI n) (nI k) (MSt h b P L w c) = some (MSt h b P (L + d) (loW P c d L w) c) := by
  intro d
  induction d with
  | zero =>
    intro f k L w hk hf hL
    obtain ⟨f, rfl⟩ : ∃ g, f = g + 1 := ⟨f - 1, by omega⟩
    rw [f_X8_lays_2, if_pos (nI_le (by omega) (by omega))]
    rfl
  | succ d ih =>
    intro f k L w hk hf hL
    obtain ⟨f, rfl⟩ : ∃ g, f = g + 1 := ⟨f - 1, by omega⟩
    rw [f_X8_lays_2, if_neg (nI_ge (by omega) (by omega)), v_L ok, Option.bind_some, nI_1, put_L ok, Option.bind_some, m_settles ok hW (by omega) hC, Option.bind_some, nI_1, ih f (k + 1) (L + 1) _ (by omega) (by omega) (by omega), loW, show L + 1 + d = L + (d + 1) by omega]
theorem m_lays (ok : MOK h b) (hW : WF P) (hC : CU c) {n : Nat} (hn : L + n ≤ aF P) : f_X8_lays (MSt h b P L w c) (nI n) = some (MSt h b P (L + n) (loW P c n L w) c) :=
  m_lays2 ok hW hC (by have := hW.a60; omega) n KF 0 L w (by omega) (by have := hW.a60; have := KF_ge; omega) hn
theorem m_many4 (ok : MOK h b) (hL : L ≤ 60) : ∀ (d f k : Nat), k + d = L → d < f → f_X8_slumpedMany_4 (MSt h b P L w c) f (nI (cnt (fB w) k)) (nI k) = some (nI (cnt (fB w) L)) := by
  intro d
  induction d with
  | zero =>
    intro f k hk hf
    obtain ⟨f, rfl⟩ : ∃ g, f = g + 1 := ⟨f - 1, by omega⟩
    rw [f_X8_slumpedMany_4, v_L ok, Option.bind_some, if_pos (nI_le (by omega) (by omega)), show k = L by omega]
  | succ d ih =>
    intro f k hk hf
    obtain ⟨f, rfl⟩ : ∃ g, f = g + 1 := ⟨f - 1, by omega⟩
    have nx : ∀ t : Nat, cnt (fB w) (k + 1) = cnt (fB w) k + t → f_X8_slumpedMany_28 (MSt h b P L w c) (f_X8_slumpedMany_4 (MSt h b P L w c) f) (nI k) (nI t) (nI (cnt (fB w) k)) = some (nI (cnt (fB w) L)) := fun t ht => by
      unfold f_X8_slumpedMany_28
      simp only [nm]
      rw [nI_add, nI_1, ← ht]
      exact ih f (k + 1) (by omega) (by omega)
    rw [f_X8_slumpedMany_4, v_L ok, Option.bind_some, if_neg (nI_ge (by omega) (by omega)), m_slumped ok (by omega), Option.bind_some]
    cases e : fB w k with
    | false => rw [if_pos bIf]; exact nx 0 (by rw [cnt, e]; rfl)
    | true => rw [if_neg (bI_t rfl)]; exact nx 1 (by rw [cnt, e]; rfl)
theorem m_many (ok : MOK h b) (hL : L ≤ 60) : f_X8_slumpedMany (MSt h b P L w c) = some (nI (cnt (fB w) L)) := m_many4 ok hL L KF 0 (by omega) (by have := KF_ge; omega)
theorem m_first5 (ok : MOK h b) (hL : L ≤ 60) : ∀ (d f k x : Nat), k + d = L → d < f → (x = 100 ∨ x < 60) → f_X8_firstSlumped_5 (MSt h b P L w c) f (cv x) (nI k) = some (cv (fsN w d k x)) := by
  intro d
  induction d with
  | zero =>
    intro f k x hk hf hx
    obtain ⟨f, rfl⟩ : ∃ g, f = g + 1 := ⟨f - 1, by omega⟩
    rw [f_X8_firstSlumped_5, v_L ok, Option.bind_some, if_pos (nI_le (by omega) (by omega))]
    rfl
  | succ d ih =>
    intro f k x hk hf hx
    obtain ⟨f, rfl⟩ : ∃ g, f = g + 1 := ⟨f - 1, by omega⟩
    have nx : ∀ x : Nat, (x = 100 ∨ x < 60) → f_X8_firstSlumped_53 (MSt h b P L w c) (f_X8_firstSlumped_5 (MSt h b P L w c) f) (nI k) (cv x) = some (cv (fsN w d (k + 1) x)) := fun x hx => by
      unfold f_X8_firstSlumped_53
      rw [nI_1]
      exact ih f (k + 1) x (by omega) (by omega) hx
    have ek : nI k = cv k := (if_neg (by omega)).symm
    have n52 := nx x hx
    have n48 : f_X8_firstSlumped_48 (MSt h b P L w c) (f_X8_firstSlumped_5 (MSt h b P L w c) f) (nI k) = some (cv (fsN w d (k + 1) k)) := by
      have := nx k (Or.inr (by omega))
      rw [← ek] at this
      exact this
    rw [f_X8_firstSlumped_5, v_L ok, Option.bind_some, if_neg (nI_ge (by omega) (by omega)), m_slumped ok (by omega), Option.bind_some, fsN]
    by_cases e : w k = -9
    · rw [if_pos (bI_f (by unfold fB; rw [decide_eq_true e]; rfl)), if_pos e]
      exact n52
    · rw [if_neg (bI_t (by unfold fB; rw [decide_eq_false e]; rfl)), if_neg e]
      rcases hx with hx | hx
      · rw [if_pos (by rw [hx]; rfl), n48, if_pos hx]
      · have ec : cv x = nI x := if_neg (by omega)
        rw [if_neg (by rw [ec]; exact nI_m9 (by omega)), v_w ok (by omega), Option.bind_some, if_neg (show ¬ x = 100 by omega)]
        rw [ec] at n52 ⊢
        rw [v_w ok hx, Option.bind_some]
        by_cases e3 : w x ≤ w k
        · rw [if_pos e3, if_pos e3]
          exact n52
        · rw [if_neg e3, if_neg e3]
          exact n48
theorem m_first (ok : MOK h b) (hL : L ≤ 60) : f_X8_firstSlumped (MSt h b P L w c) = some (cv (fsN w L 0 100)) := m_first5 ok hL L KF 0 100 (by omega) (by have := KF_ge; omega) (Or.inl rfl)
theorem setG_cg {g g' : Nat → Int32} (e : ∀ k, k < 152 → g k = g' k) : setG h b g = setG h b g' := by
  unfold setG
  congr 1
  funext j
  by_cases q : b ≤ j ∧ j < b + 152
  · rw [if_pos q, if_pos q, e _ (by omega)]
  · rw [if_neg q, if_neg q]
theorem MSt_cg {w' c' : Nat → Int32} {P' : Nat → Int32} (h0 : ∀ k, k < 31 → P k = P' k) (h1 : ∀ i, i < 60 → w i = w' i) (h2 : ∀ i, i < 60 → c i = c' i) : MSt h b P L w c = MSt h b P' L w' c' := by
  refine setG_cg (fun k hk => ?_)
  unfold mkG
  by_cases e : k < 31
  · rw [if_pos e, if_pos e, h0 k e]
  · rw [if_neg e, if_neg e]
    by_cases e2 : k = 31
    · rw [if_pos e2, if_pos e2]
    · rw [if_neg e2, if_neg e2]
      by_cases e3 : k < 92
      · rw [if_pos e3, if_pos e3, h1 _ (by omega)]
      · rw [if_neg e3, if_neg e3, h2 _ (by omega)]
theorem m_begins9 (ok : MOK h b) : ∀ (d f i : Nat) (w c : Nat → Int32), i + d = 60 → d < f → f_X8_begins_9 f (nI i) (MSt h b P L w c) = some (MSt h b P L (fun j => if i ≤ j then -9 else w j) (fun j => if i ≤ j then 0 else c j)) := by
  intro d
  induction d with
  | zero =>
    intro f i w c hi hf
    obtain ⟨f, rfl⟩ : ∃ g, f = g + 1 := ⟨f - 1, by omega⟩
    rw [f_X8_begins_9, if_pos (show (60 : Int32) ≤ nI i from nI_le (a := 60) (by omega) (by omega))]
    congr 1
    exact MSt_cg (fun _ _ => rfl) (fun j hj => (if_neg (by omega)).symm) (fun j hj => (if_neg (by omega)).symm)
  | succ d ih =>
    intro f i w c hi hf
    obtain ⟨f, rfl⟩ : ∃ g, f = g + 1 := ⟨f - 1, by omega⟩
    rw [f_X8_begins_9, if_neg (show ¬ (60 : Int32) ≤ nI i from nI_ge (b := 60) (by omega) (by omega)), put_w ok (by omega), Option.bind_some, put_c ok (by omega), Option.bind_some, nI_1, ih f (i + 1) _ _ (by omega) (by omega)]
    congr 1
    refine MSt_cg (fun _ _ => rfl) (fun j hj => ?_) (fun j hj => ?_)
    · show (if i + 1 ≤ j then -9 else upd w i (-9) j) = if i ≤ j then -9 else w j
      rw [upd_cases]
      by_cases e : i + 1 ≤ j
      · rw [if_pos e, if_pos (by omega)]
      · rw [if_neg e]
        by_cases e2 : j = i
        · rw [if_pos e2, if_pos (by omega)]
        · rw [if_neg e2, if_neg (by omega)]
    · show (if i + 1 ≤ j then 0 else upd c i 0 j) = if i ≤ j then 0 else c j
      rw [upd_cases]
      by_cases e : i + 1 ≤ j
      · rw [if_pos e, if_pos (by omega)]
      · rw [if_neg e]
        by_cases e2 : j = i
        · rw [if_pos e2, if_pos (by omega)]
        · rw [if_neg e2, if_neg (by omega)]
theorem m_begins (ok : MOK h b) : f_X8_begins (MSt h b P L w c) = some (MSt h b P 0 w0 c0) := by
  unfold f_X8_begins
  rw [show (0 : Int32) = nI 0 from rfl, put_L ok, Option.bind_some, m_begins9 ok 60 KF 0 w c (by omega) (by decide)]
  congr 1
theorem m_builds (ok : MOK h b) (hW : WF P) : f_X8_builds (MSt h b P L w c) = some (nI (cnt (fB (buW P (aF P))) (aF P)), MSt h b P (aF P) (buW P (aF P)) c0) := by
  unfold f_X8_builds
  rw [m_begins ok, Option.bind_some, m_all ok hW, Option.bind_some, m_lays ok hW c0_CU (by omega), Option.bind_some, Nat.zero_add, m_many ok hW.a60]
  rfl
theorem m_kindWas (ok : MOK h b) (hW : WF P) {i : Nat} (hi : i < aF P) : f_X8_kindWas (MSt h b P L w c) (nI i) = some (if cF P i = 0 then 1 else if P (7 + 3 * cF P i) = 2 then 2 else if i + 1 = aF P ∧ zF P (cF P i) = 1 then 4 else 3) := by
  have h60 := hW.a60
  have hc := cF_lt hW (i := i)
  have hm := mF8 hW
  have z := hW.1.2.2.1 _ hc
  unfold f_X8_kindWas
  rw [m_crs ok hW hi, Option.bind_some]
  by_cases e : cF P i = 0
  · rw [if_pos ((nI_z (by omega)).mpr e), if_pos e]
  · rw [if_neg (fun q => e ((nI_z (by omega)).mp q)), if_neg e, m_kind ok hW hc, Option.bind_some]
    by_cases e2 : P (7 + 3 * cF P i) = 2
    · rw [if_pos e2, if_pos e2]
    · rw [if_neg e2, if_neg e2, m_all ok hW, Option.bind_some, nI_p (by omega)]
      by_cases e3 : i + 1 = aF P
      · rw [if_pos (by rw [← e3]; rfl), m_size ok hW hc, Option.bind_some]
        by_cases e4 : zF P (cF P i) = 1
        · rw [if_pos (by rw [e4]; rfl), if_pos ⟨e3, e4⟩]
        · rw [if_neg (fun q : nI (zF P (cF P i)) = 1 => e4 ((nI_eq (by omega) (by decide)).mp (show nI _ = nI 1 from q))), if_neg (fun q => e4 q.2)]
      · rw [if_neg (fun q => by have := (nI_eq (by omega) (by omega)).mp q; omega), if_neg (fun q => e3 q.1)]
end MODG
