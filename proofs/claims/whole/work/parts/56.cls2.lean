section CLS
variable {h : TT} {o : Nat} {B : Nat → Nat → Int32} {P : Nat → Int32} {L : Nat} {w c : Nat → Int32}
theorem hF_60 (hW : WF P) {i : Nat} (hi : i < aF P) : hF P i = 100 ∨ hF P i < aF P := by
  have s := sF_all (P := P) (cF_lt hW (i := i))
  have a := cF_lo (P := P) (i := i)
  have z := hW.1.2.2.1 _ (cF_lt hW (i := i))
  by_cases hf : P (7 + 3 * cF P i) = 2
  · have e : hF P i = if i + 1 < aF P then i + 1 else 100 := if_pos hf
    rw [e]
    split <;> omega
  · have e : hF P i = if zF P (cF P i) < 3 then 100 else if i + 1 < sF P (cF P i) + zF P (cF P i) then i + 1 else sF P (cF P i) := if_neg hf
    rw [e]
    split
    · left; rfl
    · split <;> omega
theorem bF_60 (hW : WF P) {i : Nat} (hi : i < aF P) : bF P i = 100 ∨ bF P i < aF P := by
  have s := sF_all (P := P) (cF_lt hW (i := i))
  rcases nb_b hW hi with h | h | h <;> omega
theorem c_h188 (R : RS B P) (D : RD B P L w c) (hW : WF P) (hL : L ≤ aF P) {i : Nat} (hi : i < L) (t : Nat) : f_X0_holdOf_188 (setB h o B) o (nI i) (nI t) = some (nI (t + (if gn P 5 = 2 ∧ i + 1 ≠ L then 1 else 0))) := by
  have h60 := hW.a60
  unfold f_X0_holdOf_188 f_X0_holdOf_209
  have g5 : gn P 5 < 2 ^ 31 := by
    unfold gn
    have := Int32.toInt_lt (P 5)
    unfold Int32.toNatClampNeg
    omega
  rw [sb_0, R.2.2.2.1, D.1, hW.2.1 5 (by omega), nI_p (by omega)]
  by_cases e : gn P 5 = 2
  · rw [if_pos (by rw [e]; rfl)]
    by_cases e2 : i + 1 = L
    · rw [if_pos (by rw [show L - 1 = i by omega]), if_neg (fun q => q.2 e2)]; rfl
    · rw [if_neg (fun q => by have := (nI_eq (by omega) (by omega)).mp q; omega), if_pos ⟨e, e2⟩]
      exact congrArg some (nI_1 _)
  · rw [if_neg (fun q : nI (gn P 5) = 2 => e ((nI_eq g5 (by decide)).mp (show nI (gn P 5) = nI 2 from q))), if_neg (fun q => e q.1)]; rfl
theorem lsN_le {y : Nat} : lsN P w c y ≤ aF P := cnt_le _ _
theorem c_h134 (R : RS B P) (D : RD B P L w c) (hW : WF P) (A : AW P L w c) {i : Nat} (hi : i < L) (t : Nat) : f_X0_holdOf_134 (setB h o B) o (nI i) (nI (cF P i)) (nI t) = some (nI (t + (if clB P L w c i = true then 3 else 0) + (if gn P 5 = 2 ∧ i + 1 ≠ L then 1 else 0))) := by
  have h60 := hW.a60
  have hL := A.1
  have hc := cF_lt hW (i := i)
  have hm := mF8 hW
  have s := sF_all (P := P) hc
  have ry := R.2.2.2.2.2.2.2.2.1 _ hc
  have d10 := D.2.2.2.2.2 _ hc
  have d7 := (D.2.2.2.1 i (by omega)).1
  have P8 := (hW.2.2.2.2.2.2.2 _ hc).1
  have ll := lsN_le (P := P) (w := w) (c := c) (y := cF P i)
  have key := cl_ls hW A hi
  have h149 : ∀ x : Nat, x ≤ 1 → (if sB L w c i = true then 0 else 1) = x → f_X0_holdOf_149 (setB h o B) o (nI i) (nI (cF P i)) (nI t) (nI x) = some (nI (t + (if clB P L w c i = true then 3 else 0) + (if gn P 5 = 2 ∧ i + 1 ≠ L then 1 else 0))) := fun x hx hxx => by
    rw [hxx] at key
    unfold f_X0_holdOf_149
    simp only [inb_l (show cF P i < 8 by omega) (by decide), if_true, sb_0, sb_11, sb_5, sb_10, nI_clamp (show cF P i < 2 ^ 31 by omega), D.1, ry.2.2.2, ry.2.1, P8, d10, nI_add]
    by_cases e1 : sF P (cF P i) + zF P (cF P i) ≤ L
    · rw [if_neg (nI_nlt e1 (by omega))]
      by_cases e2 : lsN P w c (cF P i) = x
      · rw [if_pos (by rw [e2]), if_pos (key.mpr ⟨e1, e2⟩), show nI t + 3 = nI (t + 3) from nI_add t 3]
        exact c_h188 R D hW hL hi _
      · rw [if_neg (fun q => e2 ((nI_eq (by omega) (by omega)).mp q)), if_neg (fun q => e2 (key.mp q).2)]
        exact c_h188 R D hW hL hi _
    · rw [if_pos (nI_lt (by omega) (by omega)), if_neg (fun q => e1 (key.mp q).1)]
      exact c_h188 R D hW hL hi _
  unfold f_X0_holdOf_134
  rw [if_pos (inb_nI (by omega) (by decide)), sb_7, nI_clamp (by omega), d7]
  by_cases e : sB L w c i = true
  · rw [if_pos (sB_sV.mpr e)]
    exact h149 0 (by omega) (if_pos e)
  · rw [if_neg (fun q => e (sB_sV.mp q))]
    exact h149 1 (by omega) (if_neg e)
theorem c_h115 (R : RS B P) (D : RD B P L w c) (hW : WF P) (A : AW P L w c) {i : Nat} (hi : i < L) (t : Nat) : f_X0_holdOf_115 (setB h o B) o (nI i) (nI (cF P i)) (nI t) (cv (hF P i)) = some (nI (t + (if sB L w c (hF P i) = true then 2 else 0) + (if clB P L w c i = true then 3 else 0) + (if gn P 5 = 2 ∧ i + 1 ≠ L then 1 else 0))) := by
  have h60 := hW.a60
  have hL := A.1
  unfold f_X0_holdOf_115
  rcases hF_60 hW (i := i) (by omega) with e | e
  · rw [e, cv_100, if_pos (by decide), sB_no (by omega)]
    exact c_h134 R D hW A hi _
  · rw [cv_n (by omega), if_neg (nI_pos (by omega)), if_pos (inb_nI (by omega) (by decide)), sb_7, nI_clamp (by omega), (D.2.2.2.1 _ (by omega)).1]
    by_cases e2 : sB L w c (hF P i) = true
    · rw [if_pos (sB_sV.mpr e2), if_pos e2, show nI t + 2 = nI (t + 2) from nI_add t 2]
      exact c_h134 R D hW A hi _
    · rw [if_neg (fun q => e2 (sB_sV.mp q)), if_neg e2]
      exact c_h134 R D hW A hi _
theorem c_h77 (R : RS B P) (D : RD B P L w c) (hW : WF P) (A : AW P L w c) {i : Nat} (hi : i < L) (u v : Nat) : f_X0_holdOf_77 (setB h o B) o (nI i) (nI (cF P i)) (nI u) (nI v) = some (nI (v + u + 2 * snN P L w c i + (if clB P L w c i = true then 3 else 0) + (if gn P 5 = 2 ∧ i + 1 ≠ L then 1 else 0))) := by
  have h60 := hW.a60
  have hL := A.1
  obtain ⟨-, -, -, i15, i16⟩ := R.2.2.2.2.2.2.2.2.2 i (by omega)
  unfold f_X0_holdOf_77
  simp only [nm, inb_l (show i < 60 by omega) (by decide), if_true, sb_15, sb_16, sb_7, nI_clamp (show i < 2 ^ 31 by omega), i15, i16, nI_add]
  have fin : ∀ t : Nat, t = v + u + (if sB L w c (bF P i) = true then 2 else 0) → f_X0_holdOf_115 (setB h o B) o (nI i) (nI (cF P i)) (nI t) (cv (hF P i)) = some (nI (v + u + 2 * snN P L w c i + (if clB P L w c i = true then 3 else 0) + (if gn P 5 = 2 ∧ i + 1 ≠ L then 1 else 0))) := fun t ht => by
    rw [c_h115 R D hW A hi, ht]
    congr 3
    unfold snN
    congr 1
    by_cases e1 : sB L w c (bF P i) = true
    · rw [if_pos e1, if_pos e1]
      by_cases e2 : sB L w c (hF P i) = true
      · rw [if_pos e2, if_pos e2]
      · rw [if_neg e2, if_neg e2]
    · rw [if_neg e1, if_neg e1]
      by_cases e2 : sB L w c (hF P i) = true
      · rw [if_pos e2, if_pos e2]
      · rw [if_neg e2, if_neg e2]
  rcases bF_60 hW (i := i) (by omega) with e | e
  · rw [e, cv_100, if_pos (by decide)]
    refine fin _ ?_
    rw [e, sB_no (by omega)]; rfl
  · rw [cv_n (by omega), if_neg (nI_pos (by omega)), if_pos (inb_nI (by omega) (by decide)), nI_clamp (by omega), (D.2.2.2.1 _ (by omega)).1]
    by_cases e2 : sB L w c (bF P i) = true
    · rw [if_pos (sB_sV.mpr e2), show nI (v + u) + 2 = nI (v + u + 2) from nI_add _ 2]
      exact fin _ (by rw [if_pos e2])
    · rw [if_neg (fun q => e2 (sB_sV.mp q))]
      exact fin _ (by rw [if_neg e2, Nat.add_zero])
theorem c_hold (R : RS B P) (D : RD B P L w c) (hW : WF P) (A : AW P L w c) {i : Nat} (hi : i < L) : f_X0_holdOf (setB h o B) o (nI i) = some (nI (hoN P L w c i)) := by
  have h60 := hW.a60
  have hL := A.1
  have fb := fro_b hW (L := L) (i := i) (by omega)
  have g0 := hW.2.2.1
  have i12 := (R.2.2.2.2.2.2.2.2.2 i (by omega)).1
  have r33 := R.2.2.2.2.2.2.2.1
  have r20 := R.2.2.2.2.1 0 (by omega)
  have r21 := R.2.2.2.2.1 1 (by omega)
  have r22 := R.2.2.2.2.1 2 (by omega)
  have d4 := D.1
  have q0 := hW.2.1 0 (by omega)
  have q1 := hW.2.1 1 (by omega)
  have q2 := hW.2.1 2 (by omega)
  have q4 := hW.2.1 4 (by omega)
  have hh : hoN P L w c i = gn P 1 + min (gn P 0) (gn P 4 * (L - 1 - i) * gn P 2 / 20) + 2 * snN P L w c i + (if clB P L w c i = true then 3 else 0) + (if gn P 5 = 2 ∧ i + 1 ≠ L then 1 else 0) := rfl
  have h77 := fun u => c_h77 (h := h) (o := o) R D hW A hi u (gn P 1)
  have ar : P 4 * (nI L - 1 - nI i) * P 2 / 20 = nI (gn P 4 * (L - 1 - i) * gn P 2 / 20) := by
    rw [q4, q2, nI_p (by omega), pk_sub (by omega), pk_mul, pk_mul, show (20 : Int32) = nI 20 from rfl, pk_div (by omega) (by omega) (by omega)]
  have fzb : gn P 4 * (L - 1 - i) * gn P 2 / 20 < 2 ^ 31 := by omega
  generalize gn P 4 * (L - 1 - i) * gn P 2 / 20 = fz at ar hh fzb
  have i0 : inb 0 4 = true := by decide
  have i1 : inb 1 4 = true := by decide
  have i2 : inb 2 4 = true := by decide
  unfold f_X0_holdOf
  simp only [nm]
  rw [if_pos (inb_nI (show i < 60 by omega) (by decide)), if_pos i2, if_pos i1, if_pos i0, sb_12, sb_3, sb_0, sb_2, nI_clamp (show i < 2 ^ 31 by omega), tn0, tn1, tn2, i12, r33, d4, r20, r21, r22]
  rw [ar, q0, q1, hh]
  by_cases e : gn P 0 ≤ fz
  · rw [if_pos (nI_le e fzb), if_pos i0, h77, Nat.min_eq_left e]
  · rw [if_neg (nI_ge (by omega) (by omega)), h77, Nat.min_eq_right (by omega)]
theorem f_bel {h : TT} {i n : Nat} (hi : i < 2 ^ 31) (hn : n < 2 ^ 31) : f_X7_isBelow h (nI i) (nI n) = some (bI (decide (i < n))) := by
  rw [f_below]
  by_cases e : i < n
  · rw [if_pos ⟨nI_pos' hi, nI_lt e hn⟩, decide_eq_true e]; rfl
  · rw [if_neg (fun q => e ((nI_ltI hi hn).mp q.2)), decide_eq_false e]; rfl
theorem c_gives (R : RS B P) (D : RD B P L w c) (hW : WF P) (A : AW P L w c) {i : Nat} (hi : i < 60) : f_X0_gives (setB h o B) o (nI i) = some (bI (gB P L w c i)) := by
  have h60 := hW.a60
  have hL := A.1
  unfold f_X0_gives
  rw [sb_0, D.1, f_bel (by omega) (by omega), Option.bind_some]
  by_cases e0 : i < L
  · obtain ⟨i12, i13, i14, -, -⟩ := R.2.2.2.2.2.2.2.2.2 i (by omega)
    have d7 := (D.2.2.2.1 i (by omega)).1
    have h69 : (hoN P L w c i < puN P L w c i ↔ gB P L w c i = true) → f_X0_gives_69 (setB h o B) o (nI i) = some (bI (gB P L w c i)) := fun hq => by
      unfold f_X0_gives_69
      rw [c_pull R D hW (by omega), Option.bind_some, c_hold R D hW A e0, Option.bind_some]
      by_cases e : puN P L w c i ≤ hoN P L w c i
      · rw [if_pos (nI_le e (ho_b hW i)), (Bool.eq_false_iff.mpr (fun z => by have := hq.mpr z; omega) : gB P L w c i = false)]; rfl
      · rw [if_neg (nI_ge (by omega) (pu_b hW i)), hq.mp (by omega)]; rfl
    rw [if_neg (bI_t (decide_eq_true e0)), if_pos (inb_nI hi (by decide)), sb_7, nI_clamp (by omega), d7]
    by_cases e1 : sB L w c i = true
    · rw [if_pos (sB_sV.mpr e1), if_pos (inb_nI hi (by decide))]
      simp only [nm, sb_13, sb_14, i13, i14, inb_l hi (by decide), if_true]
      have hg : gB P L w c i = (decide (hoN P L w c i < puN P L w c i) || (decide (cF P i ≠ 0) && (fB w (p1 P i) || fB w (p2 P i)))) := by
        unfold gB
        rw [e1, Bool.true_and]
      unfold f_X0_gives_53
      by_cases e : cF P i = 0
      · rw [p1_0 e, p2_0 e, cv_100, if_pos (by decide), if_pos (by decide)]
        refine h69 ?_
        rw [hg, decide_eq_false (fun q : cF P i ≠ 0 => q e), Bool.false_and, Bool.or_false, decide_eq_true_eq]
      · have q1 := p1_c hW (k := i) (by omega) e
        have q2 := p2_c hW (k := i) (by omega) e
        have r1 := p1_r hW (i := i) (by omega) e
        have r2 := p2_r hW (i := i) (by omega) e
        have lo := cF_lo (P := P) (i := i)
        rw [cv_n (by omega), cv_n (by omega), if_neg (nI_pos (by omega)), if_pos (inb_nI (by omega) (by decide)), if_neg (nI_pos (by omega)), if_pos (inb_nI (by omega) (by decide)), sb_7, nI_clamp (by omega), nI_clamp (by omega), (D.2.2.2.1 (p1 P i) (by omega)).1, (D.2.2.2.1 (p2 P i) (by omega)).1]
        have f1 := fB_sV (L := L) (w := w) (c := c) (i := p1 P i) (by omega)
        have f2 := fB_sV (L := L) (w := w) (c := c) (i := p2 P i) (by omega)
        by_cases x1 : fB w (p1 P i) = true
        · rw [if_pos (f1.mpr x1), hg, x1, decide_eq_true e]
          simp [bI]
        · rw [if_neg (fun q => x1 (f1.mp q))]
          by_cases x2 : fB w (p2 P i) = true
          · rw [if_pos (f2.mpr x2), hg, x2, decide_eq_true e]
            simp [bI]
          · rw [if_neg (fun q => x2 (f2.mp q))]
            refine h69 ?_
            rw [hg, Bool.eq_false_iff.mpr x1, Bool.eq_false_iff.mpr x2]
            simp
    · rw [if_neg (fun q => e1 (sB_sV.mp q))]
      unfold gB
      rw [Bool.eq_false_iff.mpr e1, Bool.false_and]
      rfl
  · rw [if_pos (bI_f (decide_eq_false e0))]
    unfold gB
    rw [sB_no (by omega), Bool.false_and]
    rfl
theorem c_gives9 {h : TT} : f_X0_gives h o (-9) = some 0 := by
  unfold f_X0_gives
  rw [f_below, if_neg (fun q => absurd q.1 (show ¬ (0 : Int32) ≤ -9 by decide))]
  rfl
theorem sbw7 {k : Nat} {x : Int32} : wr (setB h o B) (o + 7) k x = setB h o (upB B 7 k x) := sb_w (by omega)
theorem sbw8 {k : Nat} {x : Int32} : wr (setB h o B) (o + 8) k x = setB h o (upB B 8 k x) := sb_w (by omega)
theorem sbw9 {k : Nat} {x : Int32} : wr (setB h o B) (o + 9) k x = setB h o (upB B 9 k x) := sb_w (by omega)
theorem sbw10 {k : Nat} {x : Int32} : wr (setB h o B) (o + 10) k x = setB h o (upB B 10 k x) := sb_w (by omega)
theorem RS.fr {B' : Nat → Nat → Int32} (R : RS B P) (e0 : B' 0 0 = B 0 0) (e3 : B' 0 3 = B 0 3) (e : ∀ a, (1 ≤ a ∧ a ≤ 6) ∨ 11 ≤ a → B' a = B a) : RS B' P := by
  obtain ⟨a1, a2, a3, a4, a5, a6, a7, a8, a9, a10⟩ := R
  refine ⟨e0.trans a1, by rw [e 1 (by omega)]; exact a2, by rw [e 3 (by omega)]; exact a3, e3.trans a4, by rw [e 2 (by omega)]; exact a5, by rw [e 3 (by omega)]; exact a6, by rw [e 3 (by omega)]; exact a7, by rw [e 3 (by omega)]; exact a8, ?_, ?_⟩
  · rw [e 4 (by omega), e 5 (by omega), e 6 (by omega), e 11 (by omega)]; exact a9
  · rw [e 12 (by omega), e 13 (by omega), e 14 (by omega), e 15 (by omega), e 16 (by omega)]; exact a10
theorem c_load (hW : WF P) {i : Nat} (hi : i < aF P) (h13 : B 13 i = cv (p1 P i)) (h14 : B 14 i = cv (p2 P i)) (x : Int32) : ∃ B', f_X0_load (setB h o B) o (nI i) x = some (setB h o B') ∧ (∀ a, a ≠ 9 → B' a = B a) ∧ ∀ j, j < 60 → B' 9 j = if p1 P i = j ∨ p2 P i = j then B 9 j + x else B 9 j := by
  have h60 := hW.a60
  unfold f_X0_load f_X0_load_29
  simp only [nm, inb_l (show i < 60 by omega) (by decide), if_true, sb_13, sb_14, nI_clamp (show i < 2 ^ 31 by omega), h13, h14, sb_9]
  by_cases e : cF P i = 0
  · rw [p1_0 e, p2_0 e, cv_100, if_pos (by decide), if_pos (by decide)]
    exact ⟨B, rfl, fun _ _ => rfl, fun j hj => by rw [if_neg (by omega)]⟩
  · have q1 := p1_c hW hi e
    have q2 := p2_c hW hi e
    rw [cv_n (by omega), cv_n (by omega), if_neg (nI_pos (by omega)), if_pos (inb_nI (by omega) (by decide)), if_pos (inb_nI (by omega) (by decide)), if_neg (nI_pos (by omega)), nI_clamp (by omega), nI_clamp (by omega), sbw9]
    by_cases e2 : p2 P i = p1 P i
    · rw [if_pos (by rw [e2])]
      refine ⟨_, rfl, fun a ha => upB_r ha, fun j hj => ?_⟩
      rw [upB_1]
      by_cases e3 : j = p1 P i
      · rw [if_pos ⟨rfl, e3⟩, if_pos (Or.inl e3.symm), e3]
      · rw [if_neg (fun q => e3 q.2), if_neg (by omega)]
    · rw [if_neg (fun q => e2 ((nI_eq (by omega) (by omega)).mp q)), if_pos (inb_nI (by omega) (by decide)), if_pos (inb_nI (by omega) (by decide)), sb_9, sbw9]
      refine ⟨_, rfl, fun a ha => by rw [upB_r ha, upB_r ha], fun j hj => ?_⟩
      rw [upB_1, upB_1, upB_1]
      by_cases e3 : j = p2 P i
      · rw [if_pos ⟨rfl, e3⟩, if_neg (fun q => e2 q.2), if_pos (Or.inr e3.symm), e3]
      · rw [if_neg (fun q => e3 q.2)]
        by_cases e4 : j = p1 P i
        · rw [if_pos ⟨rfl, e4⟩, if_pos (Or.inl e4.symm), e4]
        · rw [if_neg (fun q => e4 q.2), if_neg (by omega)]
theorem ab_sl {i : Nat} (hi : i < L) (hia : i < aF P) (hw : w i = -9) {x : Int32} (hx : ¬ x = -9) (j : Nat) : abN P L w j = abN P L (upd w i x) j + (if p1 P i = j ∨ p2 P i = j then 1 else 0) := by
  unfold abN
  have ne : ∀ k, k ≠ i → abB P L w j k = abB P L (upd w i x) j k := fun k hk => by unfold abB; rw [pk_un hk]
  have ni : abB P L (upd w i x) j i = false := by unfold abB; rw [pk_us, decide_eq_false hx]; simp
  by_cases e : p1 P i = j ∨ p2 P i = j
  · rw [if_pos e]
    refine cnt_upd (j := i) ni ?_ ne hia
    unfold abB
    rw [decide_eq_true hi, decide_eq_true hw]
    simpa using e
  · rw [if_neg e]
    refine cnt_congr (fun k hk => ?_)
    by_cases e2 : k = i
    · rw [e2, ni]
      unfold abB
      rw [decide_eq_false (fun q => e (Or.inl q)), decide_eq_false (fun q => e (Or.inr q))]
      simp
    · exact ne k e2
theorem ab_ly (hia : L < aF P) (hw : w L = -9) (j : Nat) : abN P (L + 1) w j = abN P L w j + (if p1 P L = j ∨ p2 P L = j then 1 else 0) := by
  unfold abN
  have ne : ∀ k, k ≠ L → abB P (L + 1) w j k = abB P L w j k := fun k hk => by
    unfold abB
    have : decide (k < L + 1) = decide (k < L) := by
      by_cases e2 : k < L
      · rw [decide_eq_true e2, decide_eq_true (by omega)]
      · rw [decide_eq_false e2, decide_eq_false (by omega)]
    rw [this]
  have ni : abB P L w j L = false := by unfold abB; rw [decide_eq_false (by omega)]; simp
  by_cases e : p1 P L = j ∨ p2 P L = j
  · rw [if_pos e]
    refine cnt_upd (j := L) ni ?_ ne hia
    unfold abB
    rw [decide_eq_true (by omega), decide_eq_true hw]
    simpa using e
  · rw [if_neg e]
    refine cnt_congr (fun k hk => ?_)
    by_cases e2 : k = L
    · rw [e2, ni]
      unfold abB
      rw [decide_eq_false (fun q => e (Or.inl q)), decide_eq_false (fun q => e (Or.inr q))]
      simp
    · exact ne k e2
theorem ls_sl {i : Nat} (hia : i < aF P) (hw : w i = -9) (hc : ¬ c i = 1) {x : Int32} (hx : ¬ x = -9) (y : Nat) : lsN P (upd w i x) c y = lsN P w c y + (if cF P i = y then 1 else 0) := by
  unfold lsN
  have ne : ∀ k, k ≠ i → lsB P (upd w i x) c y k = lsB P w c y k := fun k hk => by unfold lsB fB; rw [pk_un hk]
  have ni : lsB P w c y i = false := by unfold lsB fB; rw [decide_eq_true hw, decide_eq_false hc]; simp
  by_cases e : cF P i = y
  · rw [if_pos e]
    refine cnt_upd (j := i) ni ?_ ne hia
    unfold lsB fB
    rw [decide_eq_true e, pk_us, decide_eq_false hx]; rfl
  · rw [if_neg e]
    refine cnt_congr (fun k hk => ?_)
    by_cases e2 : k = i
    · rw [e2, ni]
      unfold lsB
      rw [decide_eq_false e]; rfl
    · exact ne k e2
theorem AW.sl (A : AW P L w c) {i : Nat} (hi : i < L) (hc : ¬ c i = 1) {x : Int32} : AW P L (upd w i x) c := by
  obtain ⟨a1, a2, a3⟩ := A
  refine ⟨a1, fun k hk => ?_, fun k hk => ?_⟩
  · rw [pk_un (by omega)]; exact a2 k hk
  · rw [pk_un (fun q => hc (by rw [← q]; exact hk))]; exact a3 k hk
theorem c_slump (R : RS B P) (D : RD B P L w c) (hW : WF P) (A : AW P L w c) {i : Nat} (hg : gB P L w c i = true) : ∃ B', f_X0_slump (setB h o B) o (nI i) = some (setB h o B') ∧ RS B' P ∧ RD B' P L (upd w i (nI (L - 1))) c := by
  have h60 := hW.a60
  have hL := A.1
  obtain ⟨hi, hw, hci⟩ := gB_s hg
  have hia : i < aF P := by omega
  have hc := cF_lt hW (i := i)
  have hm := mF8 hW
  obtain ⟨i12, i13, i14, -, -⟩ := R.2.2.2.2.2.2.2.2.2 i hia
  have x9 : ¬ nI (L - 1) = -9 := nI_m9 (by omega)
  unfold f_X0_slump
  simp only [nm, inb_l (show i < 60 by omega) (by decide), if_true, nI_clamp (show i < 2 ^ 31 by omega), sbw7, sbw8, sb_w0, sb_0, sb_12, sb_10, sbw10]
  have q4 : upB B 7 i 2 0 4 = nI L := by rw [upB_r (by omega)]; exact D.1
  have q12 : ∀ x y : Int32, upB (upB (upB B 7 i 2) 8 i x) 0 5 y 12 i = nI (cF P i) := fun x y => by
    rw [upB_r (by omega), upB_r (by omega), upB_r (by omega)]; exact i12
  rw [q4, nI_p (by omega)]
  simp only [q12]
  rw [if_pos (inb_nI (by omega) (by decide)), if_pos (inb_nI (by omega) (by decide)), nI_clamp (by omega)]
  have q5 : upB (upB B 7 i 2) 8 i (nI (L - 1)) 0 5 = nI (cnt (fB w) (aF P)) := by
    rw [upB_r (by omega), upB_r (by omega)]; exact D.2.1
  rw [q5, nI_1]
  have q10 : upB (upB (upB B 7 i 2) 8 i (nI (L - 1))) 0 5 (nI (cnt (fB w) (aF P) + 1)) 10 (cF P i) = nI (lsN P w c (cF P i)) := by
    rw [upB_r (by omega), upB_r (by omega), upB_r (by omega)]; exact D.2.2.2.2.2 _ hc
  rw [q10, nI_1]
  generalize hB1 : upB (upB (upB (upB B 7 i 2) 8 i (nI (L - 1))) 0 5 (nI (cnt (fB w) (aF P) + 1))) 10 (cF P i) (nI (lsN P w c (cF P i) + 1)) = B1
  have br : ∀ a, a ≠ 0 → a ≠ 7 → a ≠ 8 → a ≠ 10 → B1 a = B a := fun a h1 h2 h3 h4 => by
    rw [← hB1, upB_r h4, upB_r h1, upB_r h3, upB_r h2]
  obtain ⟨B', e1, e2, e3⟩ := c_load (h := h) (o := o) (B := B1) hW hia (by rw [br 13 (by omega) (by omega) (by omega) (by omega)]; exact i13) (by rw [br 14 (by omega) (by omega) (by omega) (by omega)]; exact i14) (-1)
  rw [e1]
  refine ⟨B', rfl, R.fr ?_ ?_ (fun a ha => ?_), ?_, ?_, ?_, fun k hk => ⟨?_, ?_⟩, fun j hj => ?_, fun y hy => ?_⟩
  · rw [e2 0 (by omega), ← hB1, upB_r (by omega), upB_1, if_neg (by omega), upB_r (by omega), upB_r (by omega)]
  · rw [e2 0 (by omega), ← hB1, upB_r (by omega), upB_1, if_neg (by omega), upB_r (by omega), upB_r (by omega)]
  · rw [e2 a (by omega), br a (by omega) (by omega) (by omega) (by omega)]
  · rw [e2 0 (by omega), ← hB1, upB_r (by omega), upB_1, if_neg (by omega), upB_r (by omega), upB_r (by omega)]
    exact D.1
  · rw [e2 0 (by omega), ← hB1, upB_r (by omega), upB_1, if_pos ⟨rfl, rfl⟩, fB_upd x9 hw hia]
  · rw [e2 0 (by omega), ← hB1, upB_r (by omega), upB_1, if_neg (by omega), upB_r (by omega), upB_r (by omega)]
    exact D.2.2.1
  · rw [e2 7 (by omega), ← hB1, upB_r (by omega), upB_r (by omega), upB_r (by omega), upB_1]
    unfold sV
    by_cases e : k = i
    · rw [if_pos ⟨rfl, e⟩, e, if_pos hi, pk_us, if_neg x9]
    · rw [if_neg (fun q => e q.2), (D.2.2.2.1 k hk).1, pk_un e]
      rfl
  · rw [e2 8 (by omega), ← hB1, upB_r (by omega), upB_r (by omega), upB_1, upd_cases]
    by_cases e : k = i
    · rw [if_pos ⟨rfl, e⟩, if_pos e]
    · rw [if_neg (fun q => e q.2), if_neg e, upB_r (by omega), (D.2.2.2.1 k hk).2]
  · rw [e3 j (by omega), br 9 (by omega) (by omega) (by omega) (by omega), D.2.2.2.2.1 j hj, ab_sl hi hia hw x9 j]
    by_cases e : p1 P i = j ∨ p2 P i = j
    · rw [if_pos e, if_pos e, pk_m1]
    · rw [if_neg e, if_neg e, Nat.add_zero]
  · rw [e2 10 (by omega), ← hB1, upB_1, ls_sl hia hw hci x9 y]
    by_cases e : cF P i = y
    · rw [if_pos ⟨rfl, e.symm⟩, if_pos e, e]
    · rw [if_neg (fun q => e q.2.symm), if_neg e, upB_r (by omega), upB_r (by omega), upB_r (by omega), D.2.2.2.2.2 y hy, Nat.add_zero]
end CLS
