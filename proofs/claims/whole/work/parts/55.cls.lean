/-! ===== the class's house: its 17 rows from o on, and what its methods answer of them ===== -/
def setB (h : TT) (o : Nat) (B : Nat → Nat → Int32) : TT := (fun a => if o ≤ a ∧ a < o + 17 then B (a - o) else h.1 a, h.2)
def upB (B : Nat → Nat → Int32) (j k : Nat) (x : Int32) : Nat → Nat → Int32 := fun a => if a = j then upd (B j) k x else B a
def RS (B : Nat → Nat → Int32) (P : Nat → Int32) : Prop :=
  B 0 0 = 1 ∧ B 1 0 = 1 ∧ B 3 0 = 1 ∧ B 0 3 = P 5 ∧ (∀ k, k < 4 → B 2 k = P k) ∧ B 3 1 = P 6 ∧ B 3 2 = nI (aF P) ∧ B 3 3 = P 4 ∧ (∀ y, y < mF P → B 4 y = P (7 + 3 * y) ∧ B 5 y = P (8 + 3 * y) ∧ B 6 y = P (9 + 3 * y) ∧ B 11 y = nI (sF P y)) ∧ ∀ i, i < aF P → B 12 i = nI (cF P i) ∧ B 13 i = cv (p1 P i) ∧ B 14 i = cv (p2 P i) ∧ B 15 i = cv (bF P i) ∧ B 16 i = cv (hF P i)
def sV (L : Nat) (w c : Nat → Int32) (i : Nat) : Int32 := if i < L then (if w i = -9 then (if c i = 1 then 3 else 1) else 2) else 0
def lsB (P w c : Nat → Int32) (y k : Nat) : Bool := decide (cF P k = y) && (fB w k || decide (c k = 1))
def lsN (P w c : Nat → Int32) (y : Nat) : Nat := cnt (lsB P w c y) (aF P)
def CV (c : Nat → Int32) (v : Int32) : Prop := ((∀ i, ¬ c i = 1) ∧ v = -1) ∨ ∃ p, p < 60 ∧ c p = 1 ∧ v = nI p ∧ ∀ i, c i = 1 → i = p
def RD (B : Nat → Nat → Int32) (P : Nat → Int32) (L : Nat) (w c : Nat → Int32) : Prop :=
  B 0 4 = nI L ∧ B 0 5 = nI (cnt (fB w) (aF P)) ∧ CV c (B 0 6) ∧ (∀ i, i < 60 → B 7 i = sV L w c i ∧ B 8 i = w i) ∧ (∀ i, i < aF P → B 9 i = nI (abN P L w i)) ∧ ∀ y, y < mF P → B 10 y = nI (lsN P w c y)
/-- what is so of every house: no block is slumped or cut that isn't laid; none gives -/
def AW (P : Nat → Int32) (L : Nat) (w c : Nat → Int32) : Prop := L ≤ aF P ∧ (∀ i, L ≤ i → w i = -9 ∧ ¬ c i = 1) ∧ ∀ i, c i = 1 → w i = -9 ∧ i < zF P 0 ∧ L = aF P
section CLS
variable {h : TT} {o : Nat} {B : Nat → Nat → Int32} {P : Nat → Int32} {L : Nat} {w c : Nat → Int32}
theorem sb_r {j : Nat} (hj : j < 17) : (setB h o B).1 (o + j) = B j := by
  show (if o ≤ o + j ∧ o + j < o + 17 then B (o + j - o) else h.1 (o + j)) = B j
  rw [if_pos ⟨by omega, by omega⟩, Nat.add_sub_cancel_left]
theorem sb_0 : (setB h o B).1 o = B 0 := sb_r (j := 0) (by omega)
theorem sb_1 : (setB h o B).1 (o + 1) = B 1 := sb_r (by omega)
theorem sb_2 : (setB h o B).1 (o + 1 + 1) = B 2 := sb_r (j := 2) (by omega)
theorem sb_3 : (setB h o B).1 (o + 3) = B 3 := sb_r (by omega)
theorem sb_4 : (setB h o B).1 (o + 3 + 1) = B 4 := sb_r (j := 4) (by omega)
theorem sb_5 : (setB h o B).1 (o + 3 + 2) = B 5 := sb_r (j := 5) (by omega)
theorem sb_6 : (setB h o B).1 (o + 3 + 3) = B 6 := sb_r (j := 6) (by omega)
theorem sb_7 : (setB h o B).1 (o + 7) = B 7 := sb_r (by omega)
theorem sb_8 : (setB h o B).1 (o + 8) = B 8 := sb_r (by omega)
theorem sb_9 : (setB h o B).1 (o + 9) = B 9 := sb_r (by omega)
theorem sb_10 : (setB h o B).1 (o + 10) = B 10 := sb_r (by omega)
theorem sb_11 : (setB h o B).1 (o + 11) = B 11 := sb_r (by omega)
theorem sb_12 : (setB h o B).1 (o + 12) = B 12 := sb_r (by omega)
theorem sb_13 : (setB h o B).1 (o + 13) = B 13 := sb_r (by omega)
theorem sb_14 : (setB h o B).1 (o + 14) = B 14 := sb_r (by omega)
theorem sb_15 : (setB h o B).1 (o + 15) = B 15 := sb_r (by omega)
theorem sb_16 : (setB h o B).1 (o + 16) = B 16 := sb_r (by omega)
theorem sb_o {a : Nat} (ha : a < o ∨ o + 17 ≤ a) : (setB h o B).1 a = h.1 a := if_neg (by omega)
theorem sb_w {j k : Nat} {x : Int32} (hj : j < 17) : wr (setB h o B) (o + j) k x = setB h o (upB B j k x) := by
  refine Prod.ext (funext fun a => funext fun i => ?_) rfl
  rw [wr_1]
  by_cases e : o ≤ a ∧ a < o + 17
  · obtain ⟨q, hq, rfl⟩ : ∃ q, q < 17 ∧ a = o + q := ⟨a - o, by omega, by omega⟩
    rw [sb_r hq, sb_r hq]
    unfold upB
    by_cases e2 : q = j
    · subst e2
      rw [if_pos rfl, upd_cases]
      by_cases e3 : i = k
      · rw [if_pos ⟨rfl, e3⟩, if_pos e3]
      · rw [if_neg (fun z => e3 z.2), if_neg e3]
    · rw [if_neg e2, if_neg (fun z => e2 (by omega))]
  · rw [if_neg (by omega), sb_o (by omega), sb_o (by omega)]
theorem sb_w0 {k : Nat} {x : Int32} : wr (setB h o B) o k x = setB h o (upB B 0 k x) := sb_w (j := 0) (by omega)
theorem upB_1 (j k : Nat) (x : Int32) (a i : Nat) : upB B j k x a i = if a = j ∧ i = k then x else B a i := by
  unfold upB
  by_cases e : a = j
  · subst e
    rw [if_pos rfl, upd_cases]
    by_cases e2 : i = k
    · rw [if_pos e2, if_pos ⟨rfl, e2⟩]
    · rw [if_neg e2, if_neg (fun z => e2 z.2)]
  · rw [if_neg e, if_neg (fun z => e z.1)]
theorem upB_r {j k a : Nat} {x : Int32} (ha : a ≠ j) : upB B j k x a = B a := if_neg ha
theorem CV.cu {v : Int32} (h : CV c v) : CU c := by
  intro i j hi hj
  rcases h with h | ⟨p, -, -, -, h⟩
  · exact absurd hi (h.1 i)
  · rw [h i hi, h j hj]
theorem inb_l {n : Nat} {i : Nat} (h : i < n) (hn : n < 2 ^ 31) : (inb (nI i) n = true) = True := eq_true (inb_nI h hn)
theorem tn0 : (0 : Int32).toNatClampNeg = 0 := nI_clamp (n := 0) (by decide)
theorem tn1 : (1 : Int32).toNatClampNeg = 1 := nI_clamp (n := 1) (by decide)
theorem tn2 : (2 : Int32).toNatClampNeg = 2 := nI_clamp (n := 2) (by decide)
theorem tn3 : (3 : Int32).toNatClampNeg = 3 := nI_clamp (n := 3) (by decide)
theorem ib04 : (inb 0 4 = true) = True := eq_true (by decide)
theorem ib14 : (inb 1 4 = true) = True := eq_true (by decide)
theorem ib24 : (inb 2 4 = true) = True := eq_true (by decide)
theorem ib34 : (inb 3 4 = true) = True := eq_true (by decide)
theorem cv_n {n : Nat} (h : n < 100) : cv n = nI n := if_neg (by omega)
theorem cv_100 : cv 100 = -9 := rfl
theorem c_pull (R : RS B P) (D : RD B P L w c) (hW : WF P) {i : Nat} (hi : i < aF P) : f_X0_pullOf (setB h o B) o (nI i) = some (nI (puN P L w c i)) := by
  have h60 := hW.a60
  have hc := cF_lt hW (i := i)
  have hm := mF8 hW
  have pb := pul_b hW i
  obtain ⟨-, -, -, -, r2, -, -, -, ry, ri⟩ := R
  obtain ⟨-, -, d6, -, d9, -⟩ := D
  obtain ⟨i12, i13, i14, -, -⟩ := ri i hi
  have l6 := (ry _ hc).2.2.1
  have r3 := r2 3 (by omega)
  have P3 := hW.2.1 3 (by omega)
  have P9 := (hW.2.2.2.2.2.2.2 _ hc).2.1
  have r83 : ∀ z : Int32, ∀ a : Nat, (z = 0 ∧ a = 0 ∨ z = 1 ∧ a = 2) → f_X0_pullOf_65 (setB h o B) o (nI i) (nI (gn P (9 + 3 * cF P i) * gn P 3 / 2)) z = some (nI (gn P (9 + 3 * cF P i) * gn P 3 / 2 + abN P L w i + a)) := fun z a hz => by
    unfold f_X0_pullOf_65 f_X0_pullOf_83
    rw [if_pos (inb_nI (by omega) (by decide)), sb_9, nI_clamp (by omega), d9 i hi]
    rcases hz with ⟨rfl, rfl⟩ | ⟨rfl, rfl⟩
    · rw [if_pos rfl, nI_add]; exact congrArg some (nI_add _ 0)
    · rw [if_neg (by decide), nI_add]; exact congrArg some (nI_add _ 2)
  unfold f_X0_pullOf f_X0_pullOf_64 f_X0_pullOf_60
  simp only [nm, sb_0, sb_2, sb_6, sb_12, sb_13, sb_14, nI_clamp (show i < 2 ^ 31 by omega), tn3, i12, i13, i14]
  rw [nI_clamp (by omega), l6, r3, P3, P9, pk_mul, show (2 : Int32) = nI 2 from rfl, pk_div (by omega) (by omega) (by omega)]
  simp only [inb_l (show i < 60 by omega) (by decide), inb_l (show cF P i < 8 by omega) (by decide), ib34, if_true]
  unfold puN
  by_cases e : cF P i = 0
  · have z : ∀ v : Int32, (¬ v < 0) → ¬ (-9 : Int32) = v := fun v hv q => hv (by rw [← q]; decide)
    rw [p1_0 e, p2_0 e, if_neg (fun q : cF P i ≠ 0 ∧ _ => q.1 e), cv_100]
    by_cases e2 : B 0 6 < 0
    · rw [if_pos e2]
      exact r83 0 0 (Or.inl ⟨rfl, rfl⟩)
    · rw [if_neg e2, if_neg (z _ e2), if_neg (z _ e2)]
      exact r83 0 0 (Or.inl ⟨rfl, rfl⟩)
  · have q1 := p1_c hW hi e
    have q2 := p2_c hW hi e
    rw [cv_n (by omega), cv_n (by omega)]
    rcases d6 with ⟨u1, u2⟩ | ⟨p, hp, u1, u2, u3⟩
    · rw [u2, if_pos (by decide), if_neg (fun q => by rcases q.2 with q | q <;> exact u1 _ q)]
      exact r83 0 0 (Or.inl ⟨rfl, rfl⟩)
    · rw [u2, if_neg (nI_pos (by omega))]
      by_cases e3 : p1 P i = p
      · rw [if_pos (by rw [e3]), if_pos ⟨e, Or.inl (by rw [e3]; exact u1)⟩]
        exact r83 1 2 (Or.inr ⟨rfl, rfl⟩)
      · rw [if_neg (fun q => e3 ((nI_eq (by omega) (by omega)).mp q))]
        by_cases e4 : p2 P i = p
        · rw [if_pos (by rw [e4]), if_pos ⟨e, Or.inr (by rw [e4]; exact u1)⟩]
          exact r83 1 2 (Or.inr ⟨rfl, rfl⟩)
        · rw [if_neg (fun q => e4 ((nI_eq (by omega) (by omega)).mp q)), if_neg (fun q => by
            rcases q.2 with q | q
            · exact e3 (u3 _ q)
            · exact e4 (u3 _ q))]
          exact r83 0 0 (Or.inl ⟨rfl, rfl⟩)
theorem sB_sV {i : Nat} : (sV L w c i = 1) ↔ sB L w c i = true := by
  unfold sV sB
  by_cases e1 : i < L
  · rw [if_pos e1, decide_eq_true e1, Bool.true_and]
    by_cases e2 : w i = -9
    · rw [if_pos e2, decide_eq_true e2, Bool.true_and]
      by_cases e3 : c i = 1
      · rw [if_pos e3, decide_eq_true e3]; decide
      · rw [if_neg e3, decide_eq_false e3]; decide
    · rw [if_neg e2, decide_eq_false e2, Bool.false_and]; decide
  · rw [if_neg e1, decide_eq_false e1, Bool.false_and]; decide
theorem fB_sV {i : Nat} (hi : i < L) : (sV L w c i = 2) ↔ fB w i = true := by
  unfold sV fB
  rw [if_pos hi]
  by_cases e2 : w i = -9
  · rw [if_pos e2, decide_eq_true e2]
    by_cases e3 : c i = 1
    · rw [if_pos e3]; decide
    · rw [if_neg e3]; decide
  · rw [if_neg e2, decide_eq_false e2]; decide
theorem cl_ls (hW : WF P) (A : AW P L w c) {i : Nat} (hi : i < L) : (clB P L w c i = true) ↔ (sF P (cF P i) + zF P (cF P i) ≤ L ∧ lsN P w c (cF P i) = if sB L w c i = true then 0 else 1) := by
  have hL := A.1
  have hia : i < aF P := by omega
  have hc := cF_lt hW (i := i)
  have a := cF_lo (P := P) (i := i)
  have b2 := cF_hi hW hia
  have s := sF_all (P := P) hc
  have z := hW.1.2.2.1 _ hc
  have sl : ∀ k, k < L → sB L w c k = !(fB w k || decide (c k = 1)) := fun k hk => by
    unfold sB fB
    rw [decide_eq_true hk]
    cases decide (w k = -9) <;> cases decide (c k = 1) <;> rfl
  unfold clB lsN
  rw [decide_eq_true_eq, cnt_zero]
  constructor
  · intro hx
    have hs : ∀ k, k < aF P → cF P k = cF P i → k ≠ i → sB L w c k = true := fun k hk h1 h2 => by
      have := hx k hk
      unfold xB at this
      rw [decide_eq_true h1, Bool.true_and, if_neg h2] at this
      simpa using this
    have hlaid : ∀ k, k < aF P → cF P k = cF P i → k < L := fun k hk h1 => by
      by_cases e : k = i
      · omega
      · have := hs k hk h1 e
        unfold sB at this
        simp only [Bool.and_eq_true, decide_eq_true_eq] at this
        exact this.1
    refine ⟨?_, ?_⟩
    · have := hlaid (sF P (cF P i) + zF P (cF P i) - 1) (by omega) (cF_in hW hia (by omega) (by omega))
      omega
    · have hn : ∀ k, k < aF P → k ≠ i → lsB P w c (cF P i) k = false := fun k hk h2 => by
        unfold lsB
        by_cases e : cF P k = cF P i
        · have h3 := hs k hk e h2
          rw [sl k (hlaid k hk e)] at h3
          rw [decide_eq_true e, Bool.true_and]
          simpa using h3
        · rw [decide_eq_false e, Bool.false_and]
      by_cases e : sB L w c i = true
      · rw [if_pos e]
        refine cnt_zero.mpr (fun k hk => ?_)
        by_cases e2 : k = i
        · subst e2
          unfold lsB
          rw [sl k hi] at e
          rw [decide_eq_true rfl, Bool.true_and]
          simpa using e
        · exact hn k hk e2
      · rw [if_neg e, cnt_congr (q := fun k => decide (k = i)) (fun k hk => ?_), cnt_upd (p := fun _ => false) (q := fun k => decide (k = i)) (j := i) rfl (decide_eq_true rfl) (fun k hk => decide_eq_false hk) hia, cnt_zero.mpr (fun _ _ => rfl)]
        by_cases e2 : k = i
        · subst e2
          rw [decide_eq_true rfl]
          unfold lsB
          rw [sl k hi] at e
          rw [decide_eq_true rfl, Bool.true_and]
          cases hq : (fB w k || decide (c k = 1)) with
          | true => rfl
          | false => rw [hq] at e; exact absurd rfl e
        · rw [decide_eq_false e2]
          exact hn k hk e2
  · rintro ⟨h1, h2⟩ k hk
    unfold xB
    by_cases e : cF P k = cF P i
    · rw [decide_eq_true e, Bool.true_and]
      have hkL : k < L := by
        have := cF_hi hW hk
        rw [e] at this
        omega
      by_cases e2 : k = i
      · rw [if_pos e2, decide_eq_true hkL]; rfl
      · rw [if_neg e2]
        have hk0 : lsB P w c (cF P i) k = false := by
          by_cases e3 : sB L w c i = true
          · rw [if_pos e3] at h2
            exact cnt_zero.mp h2 k hk
          · rw [if_neg e3] at h2
            have hpi : lsB P w c (cF P i) i = true := by
              unfold lsB
              rw [sl i hi] at e3
              rw [decide_eq_true rfl, Bool.true_and]
              cases hq : (fB w i || decide (c i = 1)) with
              | true => rfl
              | false => rw [hq] at e3; exact absurd rfl e3
            have := cnt_upd (p := fun k => if k = i then false else lsB P w c (cF P i) k) (q := lsB P w c (cF P i)) (j := i) (if_pos rfl) hpi (fun k hk => (if_neg hk).symm) hia
            have := cnt_zero.mp (show cnt (fun k => if k = i then false else lsB P w c (cF P i) k) (aF P) = 0 by omega) k hk
            rw [if_neg e2] at this
            exact this
        unfold lsB at hk0
        rw [decide_eq_true e, Bool.true_and] at hk0
        rw [sl k hkL, hk0]
        rfl
    · rw [decide_eq_false e, Bool.false_and]
end CLS
