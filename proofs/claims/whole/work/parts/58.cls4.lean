def FN (P : Nat → Int32) (L : Nat) : Nat := cnt (fB (buW P L)) (aF P)
def kaV (P : Nat → Int32) (i : Nat) : Int32 := if cF P i = 0 then 1 else if P (7 + 3 * cF P i) = 2 then 2 else if i + 1 = aF P ∧ zF P (cF P i) = 1 then 4 else 3
def kV (P w c : Nat → Int32) (i : Nat) : Int32 := if w i = -9 then (if c i = 1 then 5 else kaV P i) else 6
def ftV (P w c : Nat → Int32) (i : Nat) (x : Int32) : Int32 := if x = 0 then kV P w c i else if x = 1 then nI (cF P i) else if x = 2 then nI (i - sF P (cF P i)) else if x = 3 then cv (p1 P i) else w i
def mkV (P : Nat → Int32) (L : Nat) (w : Nat → Int32) (i : Nat) (x : Int32) : Int32 := if x = 1 then nI i else if x = 2 then nI i - 1 else if x = 3 then P (9 + 3 * cF P i) else if x = 4 then (if p1 P i = p2 P i then 1 else 2) else if x = 5 then nI (abN P L w i) else kaV P i
section CLS
variable {h : TT} {o b : Nat} {B : Nat → Nat → Int32} {P : Nat → Int32} {L : Nat} {w c : Nat → Int32}
theorem loW_succ : ∀ (k L : Nat) (w : Nat → Int32), loW P c (k + 1) L w = SE P (L + k + 1) c (loW P c k L w) := by
  intro k
  induction k with
  | zero => intro L w; rfl
  | succ k ih =>
    intro L w
    rw [loW, ih, loW, show L + 1 + k + 1 = L + (k + 1) + 1 by omega]
theorem bu_succ (L : Nat) : buW P (L + 1) = SE P (L + 1) c0 (buW P L) := by
  unfold buW
  rw [loW_succ, Nat.zero_add]
theorem bu_AW (hW : WF P) : ∀ L, L ≤ aF P → AW P L (buW P L) c0 := by
  have h60 := hW.a60
  intro L
  induction L with
  | zero => intro _; exact ⟨Nat.zero_le _, fun i _ => ⟨rfl, c0_1 i⟩, fun i hi => absurd hi (c0_1 i)⟩
  | succ L ih =>
    intro hL
    have A := ih (by omega)
    rw [bu_succ]
    refine AW.se (by omega) ⟨hL, fun i hi => A.2.1 i (by omega), fun i hi => absurd hi (c0_1 i)⟩
theorem bu_stab (hW : WF P) : ∀ L, L ≤ aF P → stab P L (buW P L) c0 := by
  have h60 := hW.a60
  intro L hL
  cases L with
  | zero => intro i hi; omega
  | succ L => rw [bu_succ]; exact SE_stab (by omega) _
theorem FN_s (hW : WF P) {L : Nat} (hL : L < aF P) : FN P L ≤ FN P (L + 1) := by
  have h60 := hW.a60
  unfold FN
  rw [bu_succ]
  refine cnt_mono (fun k _ hk => ?_)
  rcases SE_v (P := P) (c := c0) (L := L + 1) (by omega) (buW P L) k with e | e
  · unfold fB; rw [e]; exact hk
  · unfold fB; rw [e.2.2.2, decide_eq_false (nI_m9 (by omega))]; rfl
theorem FN_mono (hW : WF P) {L M : Nat} (h : L ≤ M) (hM : M ≤ aF P) : FN P L ≤ FN P M := by
  induction M with
  | zero => rw [show L = 0 by omega]; exact Nat.le_refl _
  | succ M ih =>
    by_cases e : L = M + 1
    · rw [e]; exact Nat.le_refl _
    · exact Nat.le_trans (ih (by omega) (by omega)) (FN_s hW (by omega))
theorem FN_le (P : Nat → Int32) (L : Nat) : FN P L ≤ aF P := cnt_le _ _
theorem cnt_L (A : AW P L w c) : cnt (fB w) (aF P) = cnt (fB w) L := cnt_flat A.1 (fun k h1 _ => by unfold fB; rw [(A.2.1 k h1).1]; rfl)
theorem FN_a (hW : WF P) : cnt (fB (buW P (aF P))) (aF P) = FN P (aF P) := rfl
/-- what raise does: it stops at L' -/
theorem c_rai6 (hW : WF P) {m : Nat} (hm : m < 2 ^ 31) : ∀ (d f L : Nat) (B : Nat → Nat → Int32), L + d = aF P → d < f → RS B P → RD B P L (buW P L) c0 → ∃ L' B', f_X0_raise_6 o f (nI m) (nI L) (setB h o B) = some (nI (FN P L'), setB h o B') ∧ RS B' P ∧ RD B' P L' (buW P L') c0 ∧ L ≤ L' ∧ L' ≤ aF P ∧ (L' = aF P ∨ m < FN P L') ∧ ∀ l, L ≤ l → l < L' → FN P l ≤ m := by
  have h60 := hW.a60
  intro d
  induction d with
  | zero =>
    intro f L B hd hf R D
    obtain ⟨f, rfl⟩ : ∃ g, f = g + 1 := ⟨f - 1, by omega⟩
    rw [f_X0_raise_6, sb_3, R.2.2.2.2.2.2.1, if_pos (nI_le (by omega) (by omega))]
    unfold f_X0_raise_35
    rw [sb_0, D.2.1]
    exact ⟨L, B, rfl, R, D, Nat.le_refl _, by omega, Or.inl (by omega), fun l h1 h2 => by omega⟩
  | succ d ih =>
    intro f L B hd hf R D
    obtain ⟨f, rfl⟩ : ∃ g, f = g + 1 := ⟨f - 1, by omega⟩
    have fl := FN_le P L
    rw [f_X0_raise_6, sb_3, R.2.2.2.2.2.2.1, if_neg (nI_ge (by omega) (by omega)), sb_0, show B 0 5 = nI (FN P L) from D.2.1]
    by_cases e : m < FN P L
    · rw [if_pos (nI_lt e (by omega))]
      unfold f_X0_raise_35
      rw [sb_0, D.2.1]
      exact ⟨L, B, rfl, R, D, Nat.le_refl _, by omega, Or.inr e, fun l h1 h2 => by omega⟩
    · rw [if_neg (nI_nlt (by omega) hm)]
      obtain ⟨B1, e1, R1, D1, A1⟩ := c_next (h := h) (o := o) hW R D (bu_AW hW L (by omega)) (bu_stab hW L (by omega)) (by omega)
      rw [← bu_succ] at D1 A1
      rw [e1, Option.bind_some, nI_1]
      obtain ⟨L', B', e2, R2, D2, q1, q2, q3, q4⟩ := ih f (L + 1) B1 (by omega) (by omega) R1 D1
      refine ⟨L', B', e2, R2, D2, by omega, q2, q3, fun l h1 h2 => ?_⟩
      by_cases e3 : l = L
      · rw [e3]; omega
      · exact q4 l (by omega) h2
theorem c_raise (hW : WF P) {m : Nat} (hm : m < 2 ^ 31) (R : RS B P) : ∃ L' B', f_X0_raise (setB h o B) o (nI m) = some (nI (FN P L'), setB h o B') ∧ RS B' P ∧ RD B' P L' (buW P L') c0 ∧ L' ≤ aF P ∧ (L' = aF P ∨ m < FN P L') ∧ ∀ l, l < L' → FN P l ≤ m := by
  have h60 := hW.a60
  unfold f_X0_raise
  obtain ⟨B1, e1, R1, D1, -, -⟩ := c_clear (h := h) (o := o) hW R
  rw [e1, Option.bind_some]
  obtain ⟨L', B', e2, R2, D2, -, q2, q3, q4⟩ := c_rai6 (h := h) (o := o) hW hm (aF P) KF 0 B1 (by omega) (by have := KF_ge; omega) R1 D1
  exact ⟨L', B', e2, R2, D2, q2, q3, fun l hl => q4 l (by omega) hl⟩
theorem c_first5 (D : RD B P L w c) (hL : L ≤ 60) : ∀ (d f k x : Nat), k + d = L → d < f → (x = 100 ∨ x < 60) → f_X0_firstFallen_5 (setB h o B) o f (cv x) (nI k) = some (cv (fsN w d k x)) := by
  intro d
  induction d with
  | zero =>
    intro f k x hk hf hx
    obtain ⟨f, rfl⟩ : ∃ g, f = g + 1 := ⟨f - 1, by omega⟩
    rw [f_X0_firstFallen_5, sb_0, D.1, if_pos (nI_le (by omega) (by omega))]
    rfl
  | succ d ih =>
    intro f k x hk hf hx
    obtain ⟨f, rfl⟩ : ∃ g, f = g + 1 := ⟨f - 1, by omega⟩
    have nx : ∀ x : Nat, (x = 100 ∨ x < 60) → f_X0_firstFallen_47 (setB h o B) o (f_X0_firstFallen_5 (setB h o B) o f) (cv x) (nI k) = some (cv (fsN w d (k + 1) x)) := fun x hx => by
      unfold f_X0_firstFallen_47
      rw [nI_1]
      exact ih f (k + 1) x (by omega) (by omega) hx
    have ek : nI k = cv k := (if_neg (by omega)).symm
    have n45 : f_X0_firstFallen_45 (setB h o B) o (f_X0_firstFallen_5 (setB h o B) o f) (nI k) = some (cv (fsN w d (k + 1) k)) := by
      have := nx k (Or.inr (by omega))
      rw [← ek] at this
      exact this
    have n47 := nx x hx
    rw [f_X0_firstFallen_5, sb_0, D.1, if_neg (nI_ge (by omega) (by omega)), if_pos (inb_nI (by omega) (by decide)), sb_7, nI_clamp (by omega), (D.2.2.2.1 k (by omega)).1, fsN]
    by_cases e : w k = -9
    · rw [if_neg (fun q => by have := (fB_sV (c := c) (w := w) (show k < L by omega)).mp q; unfold fB at this; rw [decide_eq_true e] at this; cases this), if_pos e, n47]
    · rw [if_pos ((fB_sV (show k < L by omega)).mpr (by unfold fB; rw [decide_eq_false e]; rfl)), if_neg e]
      rcases hx with hx | hx
      · rw [if_pos (by rw [hx]; decide), n45, if_pos hx]
      · have ec : cv x = nI x := if_neg (by omega)
        rw [ec] at n47 ⊢
        rw [if_neg (nI_pos (by omega)), if_pos (inb_nI (by omega) (by decide)), if_pos (inb_nI hx (by decide)), sb_8, nI_clamp (by omega), (D.2.2.2.1 k (by omega)).2, (D.2.2.2.1 x hx).2, if_neg (show ¬ x = 100 by omega)]
        by_cases e3 : w x ≤ w k
        · rw [if_pos e3, if_pos e3, n47]
        · rw [if_neg e3, if_neg e3, n45]
theorem c_first (D : RD B P L w c) (hL : L ≤ 60) : f_X0_firstFallen (setB h o B) o = some (cv (fsN w L 0 100)) := c_first5 D hL L KF 0 100 (by omega) (by have := KF_ge; omega) (Or.inl rfl)
theorem c_kindAt (R : RS B P) (hW : WF P) {i : Nat} (hi : i < aF P) : f_X0_kindAtFirst (setB h o B) o (nI i) = some (kaV P i) := by
  have h60 := hW.a60
  have hc := cF_lt hW (i := i)
  have hm := mF8 hW
  have z := hW.1.2.2.1 _ hc
  have ri := R.2.2.2.2.2.2.2.2.2 i hi
  have ry := R.2.2.2.2.2.2.2.2.1 _ hc
  have P8 := (hW.2.2.2.2.2.2.2 _ hc).1
  unfold f_X0_kindAtFirst kaV
  simp only [nm]
  rw [if_pos (inb_nI (by omega) (by decide)), sb_12, nI_clamp (by omega), ri.1]
  by_cases e : cF P i = 0
  · rw [if_pos ((nI_z (by omega)).mpr e), if_pos e]
  · rw [if_neg (fun q => e ((nI_z (by omega)).mp q)), if_neg e, if_pos (inb_nI (by omega) (by decide)), sb_4, nI_clamp (by omega), ry.1]
    by_cases e2 : P (7 + 3 * cF P i) = 2
    · rw [if_pos e2, if_pos e2]
    · rw [if_neg e2, if_neg e2, sb_3, R.2.2.2.2.2.2.1, nI_p (by omega)]
      by_cases e3 : i + 1 = aF P
      · rw [if_pos (by rw [← e3]; rfl), if_pos (inb_nI (by omega) (by decide)), sb_5, ry.2.1, P8]
        by_cases e4 : zF P (cF P i) = 1
        · rw [if_pos (by rw [e4]; rfl), if_pos ⟨e3, e4⟩]
        · rw [if_neg (fun q : nI (zF P (cF P i)) = 1 => e4 ((nI_eq (by omega) (by decide)).mp (show nI _ = nI 1 from q))), if_neg (fun q => e4 q.2)]
      · rw [if_neg (fun q => by have := (nI_eq (by omega) (by omega)).mp q; omega), if_neg (fun q => e3 q.1)]
theorem c_kind (R : RS B P) (D : RD B P L w c) (hW : WF P) (hL : L ≤ aF P) {i : Nat} (hi : i < L) : f_X0_kindOf (setB h o B) o (nI i) = some (kV P w c i) := by
  have h60 := hW.a60
  unfold f_X0_kindOf kV
  rw [if_pos (inb_nI (by omega) (by decide)), sb_7, nI_clamp (by omega), (D.2.2.2.1 i (by omega)).1]
  unfold sV
  rw [if_pos hi, if_pos (inb_nI (by omega) (by decide)), c_kindAt R hW (by omega)]
  by_cases e : w i = -9
  · rw [if_pos e, if_pos e]
    by_cases e2 : c i = 1
    · rw [if_pos e2, if_pos e2]; rfl
    · rw [if_neg e2, if_neg e2]; rfl
  · rw [if_neg e, if_neg e]; rfl
theorem m_kind_ (ok : MOK h b) (hW : WF P) {i : Nat} (hi : i < aF P) : f_X8_kind (MSt h b P L w c) (nI i) = some (kV P w c i) := by
  have h60 := hW.a60
  unfold f_X8_kind kV
  rw [m_slumped ok (by omega), Option.bind_some, m_cut ok (by omega), Option.bind_some, m_kindWas ok hW hi, Option.bind_some]
  by_cases e : w i = -9
  · rw [if_pos (bI_f (by unfold fB; rw [decide_eq_true e]; rfl)), if_pos e]
    by_cases e2 : c i = 1
    · rw [if_neg (bI_t (decide_eq_true e2)), if_pos e2]
    · rw [if_pos (bI_f (decide_eq_false e2)), if_neg e2]; rfl
  · rw [if_neg (bI_t (by unfold fB; rw [decide_eq_false e]; rfl)), if_neg e]
theorem c_fact (R : RS B P) (D : RD B P L w c) (hW : WF P) (hL : L ≤ aF P) {i : Nat} (hi : i < L) (x : Int32) : f_X0_fact (setB h o B) o (nI i) x = some (ftV P w c i x) := by
  have h60 := hW.a60
  have hc := cF_lt hW (i := i)
  have hm := mF8 hW
  have ri := R.2.2.2.2.2.2.2.2.2 i (by omega)
  have ry := R.2.2.2.2.2.2.2.2.1 _ hc
  unfold f_X0_fact ftV
  simp only [nm]
  rw [if_pos (inb_nI (by omega) (by decide)), sb_12, nI_clamp (by omega), ri.1, c_kind R D hW hL hi]
  by_cases e0 : x = 0
  · rw [if_pos e0, if_pos e0]; rfl
  · rw [if_neg e0, if_neg e0]
    by_cases e1 : x = 1
    · rw [if_pos e1, if_pos e1]
    · rw [if_neg e1, if_neg e1]
      by_cases e2 : x = 2
      · rw [if_pos e2, if_pos e2, if_pos (inb_nI (by omega) (by decide)), sb_11, nI_clamp (by omega), ry.2.2.2, pk_sub cF_lo]
      · rw [if_neg e2, if_neg e2]
        by_cases e3 : x = 3
        · rw [if_pos e3, if_pos e3, if_pos (inb_nI (by omega) (by decide)), sb_13, ri.2.1]
        · rw [if_neg e3, if_neg e3, if_pos (inb_nI (by omega) (by decide)), sb_8, (D.2.2.2.1 i (by omega)).2]
theorem m_tells (ok : MOK h b) (hW : WF P) {i : Nat} (hi : i < aF P) (x : Int32) : f_X8_blockTells (MSt h b P L w c) (nI i) x = some (ftV P w c i x) := by
  have h60 := hW.a60
  have hc := cF_lt hW (i := i)
  unfold f_X8_blockTells ftV
  rw [m_kind_ ok hW hi, m_crs ok hW hi, m_rests ok hW hi, v_w ok (by omega)]
  simp only [Option.bind_some]
  rw [m_start ok hW (by omega), Option.bind_some, pk_sub cF_lo]
  by_cases e0 : x = 0
  · rw [if_pos e0, if_pos e0]
  · rw [if_neg e0, if_neg e0]
    by_cases e1 : x = 1
    · rw [if_pos e1, if_pos e1]
    · rw [if_neg e1, if_neg e1]
      by_cases e2 : x = 2
      · rw [if_pos e2, if_pos e2]
      · rw [if_neg e2, if_neg e2]
        by_cases e3 : x = 3
        · rw [if_pos e3, if_pos e3]
        · rw [if_neg e3, if_neg e3]
theorem c_mark (R : RS B P) (D : RD B P L w c) (hW : WF P) (hL : L ≤ aF P) {i : Nat} (hi : i < L) (x : Int32) : f_X0_markOf (setB h o B) o (nI i) x = some (mkV P L w i x) := by
  have h60 := hW.a60
  have hc := cF_lt hW (i := i)
  have hm := mF8 hW
  have ri := R.2.2.2.2.2.2.2.2.2 i (by omega)
  have ry := R.2.2.2.2.2.2.2.2.1 _ hc
  unfold f_X0_markOf mkV
  simp only [inb_l (show i < 60 by omega) (by decide), if_true, sb_12, sb_13, sb_14, sb_6, sb_9, nI_clamp (show i < 2 ^ 31 by omega), ri.1, ri.2.1, ri.2.2.1, c_kindAt R hW (show i < aF P by omega), D.2.2.2.2.1 i (by omega), Option.bind_some, inb_l (show cF P i < 8 by omega) (by decide), nI_clamp (show cF P i < 2 ^ 31 by omega), ry.2.2.1]
  by_cases e4 : x = 4
  · subst e4
    by_cases e : cF P i = 0
    · rw [p1_0 e, p2_0 e]
      simp
    · have q1 := p1_c hW (k := i) (by omega) e
      have q2 := p2_c hW (k := i) (by omega) e
      rw [cv_n (by omega), cv_n (by omega)]
      by_cases e5 : p1 P i = p2 P i
      · rw [if_pos (congrArg nI e5), if_pos e5]; rfl
      · rw [if_neg (fun q => e5 ((nI_eq (by omega) (by omega)).mp q)), if_neg e5]; rfl
  · rw [if_neg e4, if_neg e4]
    by_cases e1 : x = 1
    · rw [if_pos e1, if_pos e1]
    · rw [if_neg e1, if_neg e1]
      by_cases e2 : x = 2
      · rw [if_pos e2, if_pos e2]
      · rw [if_neg e2, if_neg e2]
        by_cases e3 : x = 3
        · rw [if_pos e3, if_pos e3]
        · rw [if_neg e3, if_neg e3]
          by_cases e5 : x = 5
          · rw [if_pos e5, if_pos e5]
          · rw [if_neg e5, if_neg e5]
theorem m_mark (ok : MOK h b) (hW : WF P) (hL : L ≤ aF P) {i : Nat} (hi : i < aF P) (x : Int32) (h4 : x = 4 → cF P i ≠ 0) : f_X8_mark_57 (nI i) x (MSt h b P L w c) = some (mkV P L w i x, MSt h b P L w c) := by
  have h60 := hW.a60
  have hc := cF_lt hW (i := i)
  have P9 := (hW.2.2.2.2.2.2.2 _ hc).2.1
  unfold f_X8_mark_57 mkV
  by_cases e1 : x = 1
  · rw [if_pos e1, if_pos e1]
  · rw [if_neg e1, if_neg e1]
    by_cases e2 : x = 2
    · rw [if_pos e2, if_pos e2]
    · rw [if_neg e2, if_neg e2]
      by_cases e3 : x = 3
      · rw [if_pos e3, if_pos e3, m_crs ok hW hi, Option.bind_some, m_lean ok hW hc, Option.bind_some, P9]
      · rw [if_neg e3, if_neg e3]
        by_cases e4 : x = 4
        · have e := h4 e4
          have q1 := p1_c hW hi e
          have q2 := p2_c hW hi e
          rw [if_pos e4, if_pos e4, m_rests ok hW hi, Option.bind_some, m_too ok hW hi e, Option.bind_some, cv_n (by omega)]
          by_cases e5 : p1 P i = p2 P i
          · rw [if_pos (congrArg nI e5), if_pos e5]
          · rw [if_neg (fun q => e5 ((nI_eq (by omega) (by omega)).mp q)), if_neg e5]
        · rw [if_neg e4, if_neg e4]
          by_cases e5 : x = 5
          · rw [if_pos e5, if_pos e5, m_above ok hW hL hi, Option.bind_some]
          · rw [if_neg e5, if_neg e5, m_kindWas ok hW hi, Option.bind_some]
            rfl
end CLS
