section CLS
variable {h : TT} {o : Nat} {B : Nat → Nat → Int32} {P : Nat → Int32} {L : Nat} {w c : Nat → Int32}
theorem imax0 {s : Nat} (hs : s < 2 ^ 31) : imax 0 (nI s - 1) = nI (s - 1) := by
  unfold imax
  by_cases e : s = 0
  · subst e
    rw [if_neg (by decide)]; rfl
  · rw [nI_p e]
    by_cases e2 : s - 1 = 0
    · rw [e2, if_neg (by decide)]; rfl
    · rw [if_pos (show (0 : Int32) < nI (s - 1) from nI_lt (a := 0) (by omega) (by omega))]
theorem imin_n {a b : Nat} (ha : a < 2 ^ 31) (hb : b < 2 ^ 31) : imin (nI a) (nI b) = nI (min a b) := by
  unfold imin
  by_cases e : b < a
  · rw [if_pos (nI_lt e ha), Nat.min_eq_right (by omega)]
  · rw [if_neg (nI_nlt (by omega) hb), Nat.min_eq_left (by omega)]
theorem c_pass (hW : WF P) {k4 : Int32 → Int32 → TT → Option TT} {ps : Int32} : ∀ (k f i ag : Nat) (B : Nat → Nat → Int32) (w : Nat → Int32), RS B P → RD B P L w c → AW P L w c → i + k = L → k < f → ag ≤ 60 → ∃ B', f_X0_settle_27 o k4 f ps (nI ag) (nI i) (setB h o B) = k4 (nI (psA P L c k i w ag).2) (ps + 1) (setB h o B') ∧ RS B' P ∧ RD B' P L (psA P L c k i w ag).1 c ∧ AW P L (psA P L c k i w ag).1 c := by
  have h60 := hW.a60
  have hm := mF8 hW
  intro k
  induction k with
  | zero =>
    intro f i ag B w R D A hi hf hag
    have hL := A.1
    obtain ⟨f, rfl⟩ : ∃ g, f = g + 1 := ⟨f - 1, by omega⟩
    rw [f_X0_settle_27, sb_0, D.1, if_pos (nI_le (by omega) (by omega))]
    exact ⟨B, rfl, R, D, A⟩
  | succ k ih =>
    intro f i ag B w R D A hi hf hag
    have hL := A.1
    obtain ⟨f, rfl⟩ : ∃ g, f = g + 1 := ⟨f - 1, by omega⟩
    rw [f_X0_settle_27, sb_0, D.1, if_neg (nI_ge (by omega) (by omega)), c_gives R D hW A (by omega), Option.bind_some, psA]
    unfold f_X0_settle_79
    by_cases hg : gB P L w c i = true
    · obtain ⟨B1, e1, R1, D1⟩ := c_slump (h := h) (o := o) R D hW A hg
      obtain ⟨g1, g2, g3⟩ := gB_s hg
      have hc := cF_lt hW (i := i)
      have s := sF_all (P := P) hc
      have ri := R1.2.2.2.2.2.2.2.2.2 i (by omega)
      have ry := R1.2.2.2.2.2.2.2.2.1 _ hc
      rw [if_neg (bI_t hg), if_pos hg, e1, Option.bind_some, if_pos (inb_nI (by omega) (by decide)), sb_12, sb_11, nI_clamp (by omega), ri.1, if_pos (inb_nI (by omega) (by decide)), nI_clamp (by omega), ry.2.2.2, imax0 (by omega), imin_n (by omega) (by omega)]
      simp only [nm]
      rw [nI_1]
      exact ih f (i + 1) _ B1 _ R1 D1 (A.sl g1 g3) (by omega) (by omega) (by omega)
    · rw [if_pos (bI_f (Bool.eq_false_iff.mpr hg)), if_neg hg, nI_1]
      exact ih f (i + 1) ag B w R D A (by omega) (by omega) hag
theorem psA_le (hL : L ≤ 60) : ∀ (k i : Nat) (w : Nat → Int32) (ag : Nat), ag ≤ 60 → (psA P L c k i w ag).2 ≤ 60 := by
  intro k
  induction k with
  | zero => intro i w ag h; exact h
  | succ k ih =>
    intro i w ag h
    rw [psA]
    split
    · exact ih _ _ _ (by omega)
    · exact ih _ _ _ h
theorem c_set4 (hW : WF P) : ∀ (n f a ps : Nat) (B : Nat → Nat → Int32) (w : Nat → Int32), RS B P → RD B P L w c → AW P L w c → ps + n = 61 → n < f → a ≤ 60 → ∃ B', f_X0_settle_4 o f (nI a) (nI ps) (setB h o B) = some (setB h o B') ∧ RS B' P ∧ RD B' P L (seA P L c n a w) c ∧ AW P L (seA P L c n a w) c := by
  have h60 := hW.a60
  intro n
  induction n with
  | zero =>
    intro f a ps B w R D A hp hf ha
    obtain ⟨f, rfl⟩ : ∃ g, f = g + 1 := ⟨f - 1, by omega⟩
    rw [f_X0_settle_4, if_pos (show (60 : Int32) < nI ps from nI_lt (a := 60) (by omega) (by omega))]
    exact ⟨B, rfl, R, D, A⟩
  | succ n ih =>
    intro f a ps B w R D A hp hf ha
    have hL := A.1
    obtain ⟨f, rfl⟩ : ∃ g, f = g + 1 := ⟨f - 1, by omega⟩
    rw [f_X0_settle_4, if_neg (show ¬ (60 : Int32) < nI ps from nI_nlt (a := 60) (by omega) (by omega)), sb_0, D.1, seA]
    by_cases e : L ≤ a
    · rw [if_pos (nI_le e (by omega)), if_pos e]
      exact ⟨B, rfl, R, D, A⟩
    · rw [if_neg (nI_ge (by omega) (by omega)), if_neg e]
      simp only [nm]
      obtain ⟨B1, e1, R1, D1, A1⟩ := c_pass (h := h) (o := o) hW (k4 := f_X0_settle_4 o f) (ps := nI ps) (L - a) KF a L B w R D A (by omega) (by have := KF_ge; omega) (by omega)
      rw [e1, nI_1]
      exact ih f _ (ps + 1) B1 _ R1 D1 A1 (by omega) (by omega) (psA_le (by omega) _ _ _ _ (by omega))
theorem AW.se (hL : L ≤ 60) (A : AW P L w c) : AW P L (SE P L c w) c := by
  obtain ⟨a1, a2, a3⟩ := A
  refine ⟨a1, fun i hi => ?_, fun i hi => ?_⟩
  · rcases SE_v (P := P) (c := c) hL w i with e | e
    · rw [e]; exact a2 i hi
    · omega
  · rcases SE_v (P := P) (c := c) hL w i with e | e
    · rw [e]; exact a3 i hi
    · exact absurd hi e.2.2.1
theorem c_settle (hW : WF P) (R : RS B P) (D : RD B P L w c) (A : AW P L w c) {a : Nat} (ha : a ≤ 60) (hs : ∀ j, j < a → j < L → gB P L w c j = false) : ∃ B', f_X0_settle (setB h o B) o (nI a) = some (setB h o B') ∧ RS B' P ∧ RD B' P L (SE P L c w) c ∧ AW P L (SE P L c w) c := by
  obtain ⟨B1, e1, R1, D1, A1⟩ := c_set4 (h := h) (o := o) hW 61 KF a 0 B w R D A (by omega) (by decide) ha
  rw [seA_eq hW A.1 61 a w hs] at D1 A1
  exact ⟨B1, e1, R1, D1, A1⟩
theorem AW.no (A : AW P L w c) (hL : L < aF P) (i : Nat) : ¬ c i = 1 := fun q => by have := (A.2.2 i q).2.2; omega
theorem c_next (hW : WF P) (R : RS B P) (D : RD B P L w c) (A : AW P L w c) (S : stab P L w c) (hL : L < aF P) : ∃ B', f_X0_layNext (setB h o B) o = some (setB h o B') ∧ RS B' P ∧ RD B' P (L + 1) (SE P (L + 1) c w) c ∧ AW P (L + 1) (SE P (L + 1) c w) c := by
  have h60 := hW.a60
  have hw := (A.2.1 L (Nat.le_refl _)).1
  have hcL := A.no hL L
  obtain ⟨i12, i13, i14, -, -⟩ := R.2.2.2.2.2.2.2.2.2 L hL
  have A1 : AW P (L + 1) w c := ⟨by omega, fun i hi => A.2.1 i (by omega), fun i hi => absurd hi (A.no hL i)⟩
  unfold f_X0_layNext f_X0_layNext_90 f_X0_layNext_104
  simp only [nm, sb_0, sb_3, D.1, R.2.2.2.2.2.2.1]
  rw [if_neg (nI_ge hL (by omega)), if_pos (show nI L < (60 : Int32) from nI_lt (b := 60) (by omega) (by omega))]
  simp only [inb_l (show L < 60 by omega) (by decide), if_true, nI_clamp (show L < 2 ^ 31 by omega), sb_13, sb_14, sbw7, sb_w0, sb_0]
  have q4 : upB B 7 L 1 0 4 = nI L := by rw [upB_r (by omega)]; exact D.1
  rw [q4, nI_1]
  generalize hB1 : upB (upB B 7 L 1) 0 4 (nI (L + 1)) = B1
  have br : ∀ a, a ≠ 0 → a ≠ 7 → B1 a = B a := fun a h1 h2 => by rw [← hB1, upB_r h1, upB_r h2]
  obtain ⟨B2, e1, e2, e3⟩ := c_load (h := h) (o := o) (B := B1) hW hL (by rw [br 13 (by omega) (by omega)]; exact i13) (by rw [br 14 (by omega) (by omega)]; exact i14) 1
  rw [i13, i14, e1, Option.bind_some]
  have R2 : RS B2 P := R.fr (by rw [e2 0 (by omega), ← hB1, upB_1, if_neg (by omega), upB_r (by omega)]) (by rw [e2 0 (by omega), ← hB1, upB_1, if_neg (by omega), upB_r (by omega)]) (fun a ha => by rw [e2 a (by omega), br a (by omega) (by omega)])
  have D2 : RD B2 P (L + 1) w c := by
    refine ⟨?_, ?_, ?_, fun k hk => ⟨?_, ?_⟩, fun j hj => ?_, fun y hy => ?_⟩
    · rw [e2 0 (by omega), ← hB1, upB_1, if_pos ⟨rfl, rfl⟩]
    · rw [e2 0 (by omega), ← hB1, upB_1, if_neg (by omega), upB_r (by omega)]; exact D.2.1
    · rw [e2 0 (by omega), ← hB1, upB_1, if_neg (by omega), upB_r (by omega)]; exact D.2.2.1
    · rw [e2 7 (by omega), ← hB1, upB_r (by omega), upB_1]
      unfold sV
      by_cases e : k = L
      · rw [if_pos ⟨rfl, e⟩, e, if_pos (by omega), if_pos hw, if_neg hcL]
      · rw [if_neg (fun q => e q.2), (D.2.2.2.1 k hk).1]
        unfold sV
        by_cases e4 : k < L
        · rw [if_pos e4, if_pos (show k < L + 1 by omega)]
        · rw [if_neg e4, if_neg (show ¬ k < L + 1 by omega)]
    · rw [e2 8 (by omega), br 8 (by omega) (by omega)]; exact (D.2.2.2.1 k hk).2
    · rw [e3 j (by omega), br 9 (by omega) (by omega), D.2.2.2.2.1 j hj, ab_ly hL hw j]
      by_cases e : p1 P L = j ∨ p2 P L = j
      · rw [if_pos e, if_pos e, nI_1]
      · rw [if_neg e, if_neg e, Nat.add_zero]
    · rw [e2 10 (by omega), br 10 (by omega) (by omega)]; exact D.2.2.2.2.2 y hy
  have nog : ∀ j, j < L → p1 P L ≠ j → p2 P L ≠ j → gB P (L + 1) w c j = false := fun j hj h1 h2 => by
    cases hq : gB P (L + 1) w c j with
    | false => rfl
    | true =>
      have := gB_lay hL hj h1 h2 hq
      rw [S j hj] at this
      exact this.symm
  have fin : ∀ a : Nat, a ≤ 60 → (∀ j, j < a → j < L + 1 → gB P (L + 1) w c j = false) → ∃ B', ((f_X0_settle (setB h o B2) o (nI a)).bind fun h19 => some h19) = some (setB h o B') ∧ RS B' P ∧ RD B' P (L + 1) (SE P (L + 1) c w) c ∧ AW P (L + 1) (SE P (L + 1) c w) c := fun a ha hs => by
    obtain ⟨B3, e4, R3, D3, A3⟩ := c_settle (h := h) (o := o) hW R2 D2 A1 ha hs
    rw [e4]
    exact ⟨B3, rfl, R3, D3, A3⟩
  have fin0 : (∀ j, j < L + 1 → gB P (L + 1) w c j = false) → ∃ B', some (setB h o B2) = some (setB h o B') ∧ RS B' P ∧ RD B' P (L + 1) (SE P (L + 1) c w) c ∧ AW P (L + 1) (SE P (L + 1) c w) c := fun hs => by
    have e : SE P (L + 1) c w = w := seW_id hs 61
    rw [e]
    exact ⟨B2, rfl, R2, D2, A1⟩
  have hgL := c_gives (h := h) (o := o) R2 D2 hW A1 (i := L) (by omega)
  rw [hgL, Option.bind_some]
  by_cases e : cF P L = 0
  · rw [p1_0 e, p2_0 e] at nog ⊢
    rw [cv_100, c_gives9, if_neg (show ¬ (0 : Int32) ≤ -9 by decide)]
    simp only [Option.bind_some, if_true]
    by_cases x1 : gB P (L + 1) w c L = true
    · rw [if_neg (bI_t x1)]
      exact fin L (by omega) (fun j hj _ => nog j hj (by omega) (by omega))
    · rw [if_pos (bI_f (Bool.eq_false_iff.mpr x1))]
      refine fin0 (fun j hj => ?_)
      by_cases e5 : j = L
      · rw [e5]; exact Bool.eq_false_iff.mpr x1
      · exact nog j (by omega) (by omega) (by omega)
  · have q1 := p1_c hW hL e
    have q2 := p2_c hW hL e
    have r1 := p1_r hW hL e
    have r2 := p2_r hW hL e
    have lo := cF_lo (P := P) (i := L)
    rw [cv_n (by omega), cv_n (by omega), c_gives R2 D2 hW A1 (by omega), c_gives R2 D2 hW A1 (by omega), if_pos (nI_pos' (by omega)), imin_n (by omega) (by omega)]
    simp only [Option.bind_some]
    have hmin : ∀ j, j < min (p1 P L) (p2 P L) → j < L + 1 → gB P (L + 1) w c j = false := fun j hj _ => nog j (by omega) (by omega) (by omega)
    by_cases x1 : gB P (L + 1) w c L = true
    · rw [if_neg (bI_t x1)]
      exact fin _ (by omega) hmin
    · rw [if_pos (bI_f (Bool.eq_false_iff.mpr x1))]
      by_cases x2 : gB P (L + 1) w c (p1 P L) = true
      · rw [if_neg (bI_t x2)]
        exact fin _ (by omega) hmin
      · rw [if_pos (bI_f (Bool.eq_false_iff.mpr x2))]
        by_cases x3 : gB P (L + 1) w c (p2 P L) = true
        · rw [if_neg (bI_t x3)]
          exact fin _ (by omega) hmin
        · rw [if_pos (bI_f (Bool.eq_false_iff.mpr x3))]
          refine fin0 (fun j hj => ?_)
          by_cases e5 : j = L
          · rw [e5]; exact Bool.eq_false_iff.mpr x1
          · by_cases e6 : p1 P L = j
            · rw [← e6]; exact Bool.eq_false_iff.mpr x2
            · by_cases e7 : p2 P L = j
              · rw [← e7]; exact Bool.eq_false_iff.mpr x3
              · exact nog j (by omega) e6 e7
theorem c_wrow {j : Nat} {f : Nat → Int32} (hj : j < 17) : wrow (setB h o B) (o + j) f = setB h o (fun a => if a = j then f else B a) := by
  refine Prod.ext (funext fun a => funext fun i => ?_) rfl
  rw [wrow_1]
  by_cases e : o ≤ a ∧ a < o + 17
  · obtain ⟨q, hq, rfl⟩ : ∃ q, q < 17 ∧ a = o + q := ⟨a - o, by omega, by omega⟩
    rw [sb_r hq, sb_r hq]
    by_cases e2 : q = j
    · rw [if_pos (by omega), if_pos e2]
    · rw [if_neg (by omega), if_neg e2]
  · rw [if_neg (by omega), sb_o (by omega), sb_o (by omega)]
theorem c_clear (hW : WF P) (R : RS B P) : ∃ B', f_X0_clear (setB h o B) o = some (setB h o B') ∧ RS B' P ∧ RD B' P 0 w0 c0 ∧ AW P 0 w0 c0 ∧ stab P 0 w0 c0 := by
  unfold f_X0_clear
  simp only [nm, sb_w0]
  rw [fill_0 (by decide), Option.bind_some, sb_7, c_wrow (by omega), fill_0 (by decide), Option.bind_some, sb_8, c_wrow (by omega), fill_0 (by decide), Option.bind_some, sb_9, c_wrow (by omega), fill_0 (by decide), Option.bind_some, sb_10, c_wrow (by omega)]
  refine ⟨_, rfl, R.fr ?_ ?_ (fun a ha => ?_), ⟨?_, ?_, ?_, fun i hi => ⟨?_, ?_⟩, fun i hi => ?_, fun y hy => ?_⟩, ⟨Nat.zero_le _, fun i _ => ⟨rfl, c0_1 i⟩, fun i hi => absurd hi (c0_1 i)⟩, fun i hi => absurd hi (by omega)⟩
  · simp [upB_1]
  · simp [upB_1]
  · funext i
    simp [upB_1, show a ≠ 10 by omega, show a ≠ 9 by omega, show a ≠ 8 by omega, show a ≠ 7 by omega, show a ≠ 0 by omega]
  · simp [upB_1]; rfl
  · rw [cnt_zero.mpr (fun k _ => by rfl)]
    simp [upB_1]; rfl
  · left
    refine ⟨c0_1, ?_⟩
    simp [upB_1]
  · simp [hi, sV]
  · simp [hi, w0]
  · rw [show abN P 0 w0 i = 0 from cnt_zero.mpr (fun k _ => by unfold abB; rw [decide_eq_false (by omega)]; rfl)]
    simp [show i < 60 by have := hW.a60; omega]; rfl
  · rw [show lsN P w0 c0 y = 0 from cnt_zero.mpr (fun k _ => by unfold lsB; simp [fB, w0, c0])]
    simp [show y < 8 by have := mF8 hW; omega]; rfl
end CLS
