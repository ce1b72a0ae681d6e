section CLS
variable {h : TT} {o : Nat} {B : Nat → Nat → Int32} {P : Nat → Int32} {L : Nat} {w c : Nat → Int32}
theorem c_pass (hW : WF P) {k4 : Int32 → Int32 → TT → Option TT} {fa ps : Int32} : ∀ (k f i : Nat) (B : Nat → Nat → Int32) (w : Nat → Int32), RS B P → RD B P L w c → AW P L w c → i + k = L → k < f → ∃ B', f_X0_settle_25 o k4 f fa ps (nI i) (setB h o B) = k4 fa (ps + 1) (setB h o B') ∧ RS B' P ∧ RD B' P L (psW P L c k i w) c ∧ AW P L (psW P L c k i w) c := by
  have h60 := hW.a60
  intro k
  induction k with
  | zero =>
    intro f i B w R D A hi hf
    have hL := A.1
    obtain ⟨f, rfl⟩ : ∃ g, f = g + 1 := ⟨f - 1, by omega⟩
    rw [f_X0_settle_25, sb_0, D.1, if_pos (nI_le (by omega) (by omega))]
    exact ⟨B, rfl, R, D, A⟩
  | succ k ih =>
    intro f i B w R D A hi hf
    have hL := A.1
    obtain ⟨f, rfl⟩ : ∃ g, f = g + 1 := ⟨f - 1, by omega⟩
    rw [f_X0_settle_25, sb_0, D.1, if_neg (nI_ge (by omega) (by omega)), c_gives R D hW A (by omega), Option.bind_some, psW]
    unfold f_X0_settle_46
    by_cases hg : gB P L w c i = true
    · obtain ⟨B1, e1, R1, D1⟩ := c_slump (h := h) (o := o) R D hW A hg
      obtain ⟨g1, g2, g3⟩ := gB_s hg
      rw [if_neg (bI_t hg), if_pos hg, e1, Option.bind_some, nI_1]
      exact ih f (i + 1) B1 _ R1 D1 (A.sl g1 g3) (by omega) (by omega)
    · rw [if_pos (bI_f (Bool.eq_false_iff.mpr hg)), if_neg hg, nI_1]
      exact ih f (i + 1) B w R D A (by omega) (by omega)
theorem c_set4 (hW : WF P) : ∀ (n f ps : Nat) (fa : Int32) (B : Nat → Nat → Int32) (w : Nat → Int32), RS B P → RD B P L w c → AW P L w c → ps + n = 61 → n < f → (nI (cnt (fB w) (aF P)) ≤ fa → stab P L w c) → ∃ B', f_X0_settle_4 o f fa (nI ps) (setB h o B) = some (setB h o B') ∧ RS B' P ∧ RD B' P L (seW P L c n w) c ∧ AW P L (seW P L c n w) c := by
  have h60 := hW.a60
  have fl : ∀ w', AW P L w' c → cnt (fB w') (aF P) = cnt (fB w') L := fun w' A' => cnt_flat A'.1 (fun k h1 _ => by unfold fB; rw [(A'.2.1 k h1).1]; rfl)
  intro n
  induction n with
  | zero =>
    intro f ps fa B w R D A hp hf _
    obtain ⟨f, rfl⟩ : ∃ g, f = g + 1 := ⟨f - 1, by omega⟩
    rw [f_X0_settle_4, if_pos (show (60 : Int32) < nI ps from nI_lt (a := 60) (by omega) (by omega))]
    exact ⟨B, rfl, R, D, A⟩
  | succ n ih =>
    intro f ps fa B w R D A hp hf hfa
    have hL := A.1
    obtain ⟨f, rfl⟩ : ∃ g, f = g + 1 := ⟨f - 1, by omega⟩
    rw [f_X0_settle_4, if_neg (show ¬ (60 : Int32) < nI ps from nI_nlt (a := 60) (by omega) (by omega)), sb_0, D.2.1]
    by_cases e : nI (cnt (fB w) (aF P)) ≤ fa
    · rw [if_pos e, seW_id (hfa e)]
      exact ⟨B, rfl, R, D, A⟩
    · rw [if_neg e, seW]
      simp only [nm]
      obtain ⟨B1, e1, R1, D1, A1⟩ := c_pass (h := h) (o := o) hW (k4 := f_X0_settle_4 o f) (fa := nI (cnt (fB w) (aF P))) (ps := nI ps) L KF 0 B w R D A (by omega) (by have := KF_ge; omega)
      rw [show (0 : Int32) = nI 0 from rfl, e1, nI_1]
      refine ih f (ps + 1) _ B1 _ R1 D1 A1 (by omega) (by omega) (fun q => ?_)
      obtain ⟨-, b⟩ := psM_c (P := P) (c := c) (show L ≤ 60 by omega) L 0 w 0 (by omega) (Or.inl rfl)
      rcases b with b | ⟨-, b⟩
      · obtain ⟨-, x, y⟩ := psM_0 _ _ _ _ b
        rw [psM_1] at x
        rw [x]
        exact fun j hj => y j (by omega) (by omega)
      · rcases b with b | b
        · exact absurd b (by decide)
        · rw [psM_1] at b
          rw [fl _ A1, fl _ A] at q
          exact absurd q (nI_ge b (by have := cnt_le (fB (psW P L c L 0 w)) L; omega))
theorem AW.se (hL : L ≤ 60) (A : AW P L w c) : AW P L (SE P L c w) c := by
  obtain ⟨a1, a2, a3⟩ := A
  refine ⟨a1, fun i hi => ?_, fun i hi => ?_⟩
  · rcases SE_v (P := P) (c := c) hL w i with e | e
    · rw [e]; exact a2 i hi
    · omega
  · rcases SE_v (P := P) (c := c) hL w i with e | e
    · rw [e]; exact a3 i hi
    · exact absurd hi e.2.2.1
theorem c_settle (hW : WF P) (R : RS B P) (D : RD B P L w c) (A : AW P L w c) : ∃ B', f_X0_settle (setB h o B) o = some (setB h o B') ∧ RS B' P ∧ RD B' P L (SE P L c w) c ∧ AW P L (SE P L c w) c := by
  have h60 := hW.a60
  unfold f_X0_settle
  rw [show (0 : Int32) = nI 0 from rfl]
  exact c_set4 (h := h) (o := o) hW 61 KF 0 (-1) B w R D A (by omega) (by decide) (fun q => absurd (Int32.le_trans (nI_pos' (n := cnt (fB w) (aF P)) (by have := cnt_le (fB w) (aF P); omega)) q) (by decide))
theorem AW.no (A : AW P L w c) (hL : L < aF P) (i : Nat) : ¬ c i = 1 := fun q => by have := (A.2.2 i q).2.2; omega
theorem c_next (hW : WF P) (R : RS B P) (D : RD B P L w c) (A : AW P L w c) (S : stab P L w c) (hL : L < aF P) : ∃ B', f_X0_layNext (setB h o B) o = some (setB h o B') ∧ RS B' P ∧ RD B' P (L + 1) (SE P (L + 1) c w) c ∧ AW P (L + 1) (SE P (L + 1) c w) c := by
  have h60 := hW.a60
  have hw := (A.2.1 L (Nat.le_refl _)).1
  have hcL := A.no hL L
  obtain ⟨i12, i13, i14, -, -⟩ := R.2.2.2.2.2.2.2.2.2 L hL
  have A1 : AW P (L + 1) w c := ⟨by omega, fun i hi => A.2.1 i (by omega), fun i hi => absurd hi (A.no hL i)⟩
  unfold f_X0_layNext f_X0_layNext_90
  simp only [nm, sb_0, sb_3, D.1, R.2.2.2.2.2.2.1]
  rw [if_neg (nI_ge hL (by omega)), if_pos (show nI L < (60 : Int32) from nI_lt (b := 60) (by omega) (by omega))]
  simp only [inb_l (show L < 60 by omega) (by decide), if_true, nI_clamp (show L < 2 ^ 31 by omega), sb_13, sb_14, sbw7, sb_w0, sb_0]
  have q4 : upB B 7 L 1 0 4 = nI L := by rw [upB_r (by omega)]; exact D.1
  rw [q4, nI_1]
  generalize hB1 : upB (upB B 7 L 1) 0 4 (nI (L + 1)) = B1
  have br : ∀ a, a ≠ 0 → a ≠ 7 → B1 a = B a := fun a h1 h2 => by rw [← hB1, upB_r h1, upB_r h2]
  obtain ⟨B2, e1, e2, e3⟩ := c_load (h := h) (o := o) (B := B1) hW hL (by rw [br 13 (by omega) (by omega)]; exact i13) (by rw [br 14 (by omega) (by omega)]; exact i14) 1
  rw [i13, i14, e1, Option.bind_some]
  have R2 : RS B2 P := R.fr (by rw [e2 0 (by omega), ← hB1, upB_1, if_neg (by omega), upB_r (by omega)]) (by rw [e2 0 (by omega), ← hB1, upB_1, if_neg (by omega), upB_r (by omega)]) (fun a ha => by rw [e2 a (by omega), br a (by omega) (by omega)])
  have D2 : RD B2 P (L + 1) w c := by
    refine ⟨?_, ?_, ?_, fun k hk => ⟨?_, ?_⟩, fun j hj => ?_, fun y hy => ?_⟩
    · rw [e2 0 (by omega), ← hB1, upB_1, if_pos ⟨rfl, rfl⟩]
    · rw [e2 0 (by omega), ← hB1, upB_1, if_neg (by omega), upB_r (by omega)]; exact D.2.1
    · rw [e2 0 (by omega), ← hB1, upB_1, if_neg (by omega), upB_r (by omega)]; exact D.2.2.1
    · rw [e2 7 (by omega), ← hB1, upB_r (by omega), upB_1]
      unfold sV
      by_cases e : k = L
      · rw [if_pos ⟨rfl, e⟩, e, if_pos (by omega), if_pos hw, if_neg hcL]
      · rw [if_neg (fun q => e q.2), (D.2.2.2.1 k hk).1]
        unfold sV
        by_cases e4 : k < L
        · rw [if_pos e4, if_pos (show k < L + 1 by omega)]
        · rw [if_neg e4, if_neg (show ¬ k < L + 1 by omega)]
    · rw [e2 8 (by omega), br 8 (by omega) (by omega)]; exact (D.2.2.2.1 k hk).2
    · rw [e3 j (by omega), br 9 (by omega) (by omega), D.2.2.2.2.1 j hj, ab_ly hL hw j]
      by_cases e : p1 P L = j ∨ p2 P L = j
      · rw [if_pos e, if_pos e, nI_1]
      · rw [if_neg e, if_neg e, Nat.add_zero]
    · rw [e2 10 (by omega), br 10 (by omega) (by omega)]; exact D.2.2.2.2.2 y hy
  have nog : ∀ j, j < L → p1 P L ≠ j → p2 P L ≠ j → gB P (L + 1) w c j = false := fun j hj h1 h2 => by
    cases hq : gB P (L + 1) w c j with
    | false => rfl
    | true =>
      have := gB_lay hL hj h1 h2 hq
      rw [S j hj] at this
      exact this.symm
  have fin : ∃ B', ((f_X0_settle (setB h o B2) o).bind fun h18 => some h18) = some (setB h o B') ∧ RS B' P ∧ RD B' P (L + 1) (SE P (L + 1) c w) c ∧ AW P (L + 1) (SE P (L + 1) c w) c := by
    obtain ⟨B3, e4, R3, D3, A3⟩ := c_settle (h := h) (o := o) hW R2 D2 A1
    rw [e4]
    exact ⟨B3, rfl, R3, D3, A3⟩
  have fin0 : (∀ j, j < L + 1 → gB P (L + 1) w c j = false) → ∃ B', some (setB h o B2) = some (setB h o B') ∧ RS B' P ∧ RD B' P (L + 1) (SE P (L + 1) c w) c ∧ AW P (L + 1) (SE P (L + 1) c w) c := fun hs => by
    have e : SE P (L + 1) c w = w := seW_id hs 61
    rw [e]
    exact ⟨B2, rfl, R2, D2, A1⟩
  have hgL := c_gives (h := h) (o := o) R2 D2 hW A1 (i := L) (by omega)
  rw [hgL, Option.bind_some]
  by_cases e : cF P L = 0
  · rw [p1_0 e, p2_0 e] at nog ⊢
    rw [cv_100, c_gives9]
    simp only [Option.bind_some, if_true]
    by_cases x1 : gB P (L + 1) w c L = true
    · rw [if_neg (bI_t x1)]
      exact fin
    · rw [if_pos (bI_f (Bool.eq_false_iff.mpr x1))]
      refine fin0 (fun j hj => ?_)
      by_cases e5 : j = L
      · rw [e5]; exact Bool.eq_false_iff.mpr x1
      · exact nog j (by omega) (by omega) (by omega)
  · have q1 := p1_c hW hL e
    have q2 := p2_c hW hL e
    have r1 := p1_r hW hL e
    have r2 := p2_r hW hL e
    have lo := cF_lo (P := P) (i := L)
    rw [cv_n (by omega), cv_n (by omega), c_gives R2 D2 hW A1 (by omega), c_gives R2 D2 hW A1 (by omega)]
    simp only [Option.bind_some]
    by_cases x1 : gB P (L + 1) w c L = true
    · rw [if_neg (bI_t x1)]
      exact fin
    · rw [if_pos (bI_f (Bool.eq_false_iff.mpr x1))]
      by_cases x2 : gB P (L + 1) w c (p1 P L) = true
      · rw [if_neg (bI_t x2)]
        exact fin
      · rw [if_pos (bI_f (Bool.eq_false_iff.mpr x2))]
        by_cases x3 : gB P (L + 1) w c (p2 P L) = true
        · rw [if_neg (bI_t x3)]
          exact fin
        · rw [if_pos (bI_f (Bool.eq_false_iff.mpr x3))]
          refine fin0 (fun j hj => ?_)
          by_cases e5 : j = L
          · rw [e5]; exact Bool.eq_false_iff.mpr x1
          · by_cases e6 : p1 P L = j
            · rw [← e6]; exact Bool.eq_false_iff.mpr x2
            · by_cases e7 : p2 P L = j
              · rw [← e7]; exact Bool.eq_false_iff.mpr x3
              · exact nog j (by omega) e6 e7
theorem c_wrow {j : Nat} {f : Nat → Int32} (hj : j < 17) : wrow (setB h o B) (o + j) f = setB h o (fun a => if a = j then f else B a) := by
  refine Prod.ext (funext fun a => funext fun i => ?_) rfl
  rw [wrow_1]
  by_cases e : o ≤ a ∧ a < o + 17
  · obtain ⟨q, hq, rfl⟩ : ∃ q, q < 17 ∧ a = o + q := ⟨a - o, by omega, by omega⟩
    rw [sb_r hq, sb_r hq]
    by_cases e2 : q = j
    · rw [if_pos (by omega), if_pos e2]
    · rw [if_neg (by omega), if_neg e2]
  · rw [if_neg (by omega), sb_o (by omega), sb_o (by omega)]
theorem c_clear (hW : WF P) (R : RS B P) : ∃ B', f_X0_clear (setB h o B) o = some (setB h o B') ∧ RS B' P ∧ RD B' P 0 w0 c0 ∧ AW P 0 w0 c0 ∧ stab P 0 w0 c0 := by
  unfold f_X0_clear
  simp only [nm, sb_w0]
  rw [fill_0 (by decide), Option.bind_some, sb_7, c_wrow (by omega), fill_0 (by decide), Option.bind_some, sb_8, c_wrow (by omega), fill_0 (by decide), Option.bind_some, sb_9, c_wrow (by omega), fill_0 (by decide), Option.bind_some, sb_10, c_wrow (by omega)]
  refine ⟨_, rfl, R.fr ?_ ?_ (fun a ha => ?_), ⟨?_, ?_, ?_, fun i hi => ⟨?_, ?_⟩, fun i hi => ?_, fun y hy => ?_⟩, ⟨Nat.zero_le _, fun i _ => ⟨rfl, c0_1 i⟩, fun i hi => absurd hi (c0_1 i)⟩, fun i hi => absurd hi (by omega)⟩
  · simp [upB_1]
  · simp [upB_1]
  · funext i
    simp [upB_1, show a ≠ 10 by omega, show a ≠ 9 by omega, show a ≠ 8 by omega, show a ≠ 7 by omega, show a ≠ 0 by omega]
  · simp [upB_1]; rfl
  · rw [cnt_zero.mpr (fun k _ => by rfl)]
    simp [upB_1]; rfl
  · left
    refine ⟨c0_1, ?_⟩
    simp [upB_1]
  · simp [hi, sV]
  · simp [hi, w0]
  · rw [show abN P 0 w0 i = 0 from cnt_zero.mpr (fun k _ => by unfold abB; rw [decide_eq_false (by omega)]; rfl)]
    simp [show i < 60 by have := hW.a60; omega]; rfl
  · rw [show lsN P w0 c0 y = 0 from cnt_zero.mpr (fun k _ => by unfold lsB; simp [fB, w0, c0])]
    simp [show y < 8 by have := mF8 hW; omega]; rfl
end CLS
