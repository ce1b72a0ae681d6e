/-! ===== PURE: counts, courses, rests, neighbours; what holds, what pulls, what gives; a pass, settling ===== -/
def cnt (p : Nat → Bool) : Nat → Nat
  | 0 => 0
  | n + 1 => cnt p n + (if p n = true then 1 else 0)
theorem cnt_le (p : Nat → Bool) : ∀ n, cnt p n ≤ n := by
  intro n
  induction n with
  | zero => exact Nat.le_refl _
  | succ n ih =>
    rw [cnt]
    split <;> omega
theorem cnt_congr {p q : Nat → Bool} : ∀ {n : Nat}, (∀ k, k < n → p k = q k) → cnt p n = cnt q n := by
  intro n
  induction n with
  | zero => intro _; rfl
  | succ n ih =>
    intro h
    rw [cnt, cnt, ih (fun k hk => h k (by omega)), h n (by omega)]
theorem cnt_zero {p : Nat → Bool} : ∀ {n : Nat}, cnt p n = 0 ↔ ∀ k, k < n → p k = false := by
  intro n
  induction n with
  | zero => exact ⟨fun _ k hk => by omega, fun _ => rfl⟩
  | succ n ih =>
    rw [cnt]
    constructor
    · intro h k hk
      by_cases e : k = n
      · subst e
        cases hp : p k with
        | false => rfl
        | true => rw [if_pos hp] at h; omega
      · exact ih.mp (by omega) k (by omega)
    · intro h
      rw [if_neg (by rw [h n (by omega)]; decide), ih.mpr (fun k hk => h k (by omega))]
theorem cnt_upd {p q : Nat → Bool} {j : Nat} (hp : p j = false) (hq : q j = true) (he : ∀ k, k ≠ j → q k = p k) : ∀ {n : Nat}, j < n → cnt q n = cnt p n + 1 := by
  intro n
  induction n with
  | zero => intro h; omega
  | succ n ih =>
    intro h
    rw [cnt, cnt]
    by_cases e : j = n
    · subst e
      rw [hp, hq, cnt_congr (p := q) (q := p) (fun k hk => he k (by omega))]
      simp
    · rw [ih (by omega), he n (fun q => e q.symm)]
      omega
theorem cnt_mono {p q : Nat → Bool} : ∀ {n : Nat}, (∀ k, k < n → p k = true → q k = true) → cnt p n ≤ cnt q n := by
  intro n
  induction n with
  | zero => intro _; exact Nat.le_refl _
  | succ n ih =>
    intro h
    rw [cnt, cnt]
    have := ih (fun k hk => h k (by omega))
    by_cases e : p n = true
    · rw [if_pos e, if_pos (h n (by omega) e)]
      omega
    · rw [if_neg e]
      omega
theorem cnt_flat {p : Nat → Bool} {a : Nat} : ∀ {b : Nat}, a ≤ b → (∀ k, a ≤ k → k < b → p k = false) → cnt p b = cnt p a := by
  intro b
  induction b with
  | zero => intro h _; rw [show a = 0 by omega]
  | succ b ih =>
    intro h h2
    by_cases e : a = b + 1
    · rw [e]
    · rw [cnt, if_neg (by rw [h2 b (by omega) (by omega)]; decide), ih (by omega) (fun k a b => h2 k a (by omega)), Nat.add_zero]
theorem cnt_up {p : Nat → Bool} {a b : Nat} (h : a ≤ b) : cnt p a ≤ cnt p b := by
  induction b with
  | zero => rw [show a = 0 by omega]; exact Nat.le_refl _
  | succ b ih =>
    by_cases e : a = b + 1
    · rw [e]; exact Nat.le_refl _
    · rw [cnt]
      have := ih (by omega)
      omega
def st (sz : Nat → Nat) : Nat → Nat
  | 0 => 0
  | y + 1 => st sz y + sz y
def crs (sz : Nat → Nat) (i : Nat) : Nat → Nat
  | 0 => 0
  | k + 1 => if st sz (k + 1) ≤ i then k + 1 else crs sz i k
def GW (sz : Nat → Nat) (m : Nat) : Prop := 1 ≤ m ∧ m ≤ 8 ∧ (∀ y, y < m → 1 ≤ sz y ∧ sz y ≤ 12) ∧ st sz m ≤ 60
section GEO
variable {sz : Nat → Nat} {m i : Nat}
theorem st_mono {y z : Nat} (h : y ≤ z) : st sz y ≤ st sz z := by
  induction z with
  | zero => rw [show y = 0 by omega]; exact Nat.le_refl _
  | succ z ih =>
    by_cases e : y = z + 1
    · rw [e]; exact Nat.le_refl _
    · rw [st]
      have := ih (by omega)
      omega
theorem crs_le : ∀ k, crs sz i k ≤ k := by
  intro k
  induction k with
  | zero => exact Nat.le_refl _
  | succ k ih =>
    rw [crs]
    split
    · exact Nat.le_refl _
    · omega
theorem crs_lo : ∀ k, st sz (crs sz i k) ≤ i := by
  intro k
  induction k with
  | zero => exact Nat.zero_le _
  | succ k ih =>
    rw [crs]
    split
    · assumption
    · exact ih
theorem crs_hi : ∀ k, i < st sz (k + 1) → i < st sz (crs sz i k + 1) := by
  intro k
  induction k with
  | zero => intro h; exact h
  | succ k ih =>
    intro h
    rw [crs]
    split
    · exact h
    · exact ih (by omega)
theorem crs_un {y k : Nat} (hy : y ≤ k) (h1 : st sz y ≤ i) (h2 : i < st sz (y + 1)) : crs sz i k = y := by
  have a := crs_lo (sz := sz) (i := i) k
  have b := crs_hi (sz := sz) (i := i) k (by have := st_mono (sz := sz) (show y + 1 ≤ k + 1 by omega); omega)
  by_cases e : crs sz i k < y
  · have := st_mono (sz := sz) (show crs sz i k + 1 ≤ y by omega)
    omega
  · by_cases e2 : y < crs sz i k
    · have := st_mono (sz := sz) (show y + 1 ≤ crs sz i k by omega)
      omega
    · omega
def cRs (sz : Nat → Nat) (m i : Nat) : Nat := crs sz i (m - 1)
def rq (sz : Nat → Nat) (y i : Nat) : Nat := (i - st sz y) * sz (y - 1) / sz y
def rs1 (sz : Nat → Nat) (m i : Nat) : Nat := if cRs sz m i = 0 then 100 else st sz (cRs sz m i - 1) + rq sz (cRs sz m i) i
def rs2 (sz : Nat → Nat) (m i : Nat) : Nat := if cRs sz m i = 0 then 100 else st sz (cRs sz m i - 1) + (if rq sz (cRs sz m i) i + 1 < sz (cRs sz m i - 1) then rq sz (cRs sz m i) i + 1 else 0)
theorem cRs_lt (h : GW sz m) : cRs sz m i < m := by
  have := crs_le (sz := sz) (i := i) (m - 1)
  have := h.1
  unfold cRs
  omega
theorem cRs_lo : st sz (cRs sz m i) ≤ i := crs_lo _
theorem cRs_hi (h : GW sz m) (hi : i < st sz m) : i < st sz (cRs sz m i) + sz (cRs sz m i) := by
  have := crs_hi (sz := sz) (i := i) (m - 1) (by rw [show m - 1 + 1 = m by have := h.1; omega]; exact hi)
  exact this
theorem cRs_un {y : Nat} (hy : y < m) (h1 : st sz y ≤ i) (h2 : i < st sz y + sz y) : cRs sz m i = y := crs_un (by omega) h1 h2
theorem st_all {y : Nat} (hy : y < m) : st sz y + sz y ≤ st sz m := st_mono (sz := sz) (show y + 1 ≤ m by omega)
theorem st_pr {y : Nat} (hy : 0 < y) : st sz y = st sz (y - 1) + sz (y - 1) := by
  obtain ⟨z, rfl⟩ : ∃ z, y = z + 1 := ⟨y - 1, by omega⟩
  rfl
theorem rq_lt (h : GW sz m) (hi : i < st sz m) (h0 : cRs sz m i ≠ 0) : rq sz (cRs sz m i) i < sz (cRs sz m i - 1) := by
  unfold rq
  have h1 := cRs_hi h hi
  have h2 := cRs_lo (sz := sz) (m := m) (i := i)
  have h3 := (h.2.2.1 (cRs sz m i - 1) (by have := cRs_lt (i := i) h; omega)).1
  refine Nat.div_lt_of_lt_mul ?_
  exact Nat.mul_lt_mul_of_pos_right (by omega) (by omega)
theorem rs1_r (h : GW sz m) (hi : i < st sz m) (h0 : cRs sz m i ≠ 0) : st sz (cRs sz m i - 1) ≤ rs1 sz m i ∧ rs1 sz m i < st sz (cRs sz m i) := by
  unfold rs1
  rw [if_neg h0, st_pr (y := cRs sz m i) (by omega)]
  have := rq_lt h hi h0
  omega
theorem rs2_r (h : GW sz m) (hi : i < st sz m) (h0 : cRs sz m i ≠ 0) : st sz (cRs sz m i - 1) ≤ rs2 sz m i ∧ rs2 sz m i < st sz (cRs sz m i) := by
  unfold rs2
  rw [if_neg h0, st_pr (y := cRs sz m i) (by omega)]
  have := rq_lt h hi h0
  have h3 := (h.2.2.1 (cRs sz m i - 1) (by have := cRs_lt (i := i) h; omega)).1
  split <;> omega
end GEO
def bfo (sz : Nat → Nat) (m : Nat) (fr : Nat → Int32) (i : Nat) : Nat :=
  if fr (cRs sz m i) = 2 then (if i = 0 then 100 else i - 1)
  else if sz (cRs sz m i) < 2 then 100 else if i = st sz (cRs sz m i) then st sz (cRs sz m i) + sz (cRs sz m i) - 1 else i - 1
def bhi (sz : Nat → Nat) (m : Nat) (fr : Nat → Int32) (i : Nat) : Nat :=
  if fr (cRs sz m i) = 2 then (if i + 1 < st sz m then i + 1 else 100)
  else if sz (cRs sz m i) < 3 then 100 else if i + 1 < st sz (cRs sz m i) + sz (cRs sz m i) then i + 1 else st sz (cRs sz m i)
def gn (P : Nat → Int32) (k : Nat) : Nat := (P k).toNatClampNeg
def zF (P : Nat → Int32) : Nat → Nat := fun y => gn P (8 + 3 * y)
def mF (P : Nat → Int32) : Nat := gn P 6
def aF (P : Nat → Int32) : Nat := st (zF P) (mF P)
def cF (P : Nat → Int32) (i : Nat) : Nat := cRs (zF P) (mF P) i
def sF (P : Nat → Int32) (y : Nat) : Nat := st (zF P) y
def p1 (P : Nat → Int32) (i : Nat) : Nat := rs1 (zF P) (mF P) i
def p2 (P : Nat → Int32) (i : Nat) : Nat := rs2 (zF P) (mF P) i
def bF (P : Nat → Int32) (i : Nat) : Nat := bfo (zF P) (mF P) (fun y => P (7 + 3 * y)) i
def hF (P : Nat → Int32) (i : Nat) : Nat := bhi (zF P) (mF P) (fun y => P (7 + 3 * y)) i
def WF (P : Nat → Int32) : Prop := GW (zF P) (mF P) ∧ (∀ k, k < 7 → P k = nI (gn P k)) ∧ gn P 0 ≤ 30 ∧ gn P 1 ≤ 9 ∧ gn P 2 ≤ 40 ∧ gn P 3 ≤ 9 ∧ gn P 4 ≤ 9 ∧ ∀ y, y < mF P → P (8 + 3 * y) = nI (zF P y) ∧ P (9 + 3 * y) = nI (gn P (9 + 3 * y)) ∧ gn P (9 + 3 * y) ≤ 9
def sB (L : Nat) (w c : Nat → Int32) (i : Nat) : Bool := decide (i < L) && (decide (w i = -9) && !decide (c i = 1))
def fB (w : Nat → Int32) (i : Nat) : Bool := !decide (w i = -9)
def snN (P : Nat → Int32) (L : Nat) (w c : Nat → Int32) (i : Nat) : Nat := (if sB L w c (bF P i) = true then 1 else 0) + (if sB L w c (hF P i) = true then 1 else 0)
def xB (P : Nat → Int32) (L : Nat) (w c : Nat → Int32) (i k : Nat) : Bool := decide (cF P k = cF P i) && (if k = i then !decide (k < L) else !sB L w c k)
def clB (P : Nat → Int32) (L : Nat) (w c : Nat → Int32) (i : Nat) : Bool := decide (cnt (xB P L w c i) (aF P) = 0)
def hoN (P : Nat → Int32) (L : Nat) (w c : Nat → Int32) (i : Nat) : Nat := gn P 1 + min (gn P 0) (gn P 4 * (L - 1 - i) * gn P 2 / 20) + 2 * snN P L w c i + (if clB P L w c i = true then 3 else 0) + (if gn P 5 = 2 ∧ i + 1 ≠ L then 1 else 0)
def abB (P : Nat → Int32) (L : Nat) (w : Nat → Int32) (i k : Nat) : Bool := decide (k < L) && (decide (w k = -9) && (decide (p1 P k = i) || decide (p2 P k = i)))
def abN (P : Nat → Int32) (L : Nat) (w : Nat → Int32) (i : Nat) : Nat := cnt (abB P L w i) (aF P)
def puN (P : Nat → Int32) (L : Nat) (w c : Nat → Int32) (i : Nat) : Nat := gn P (9 + 3 * cF P i) * gn P 3 / 2 + abN P L w i + (if cF P i ≠ 0 ∧ (c (p1 P i) = 1 ∨ c (p2 P i) = 1) then 2 else 0)
def gB (P : Nat → Int32) (L : Nat) (w c : Nat → Int32) (i : Nat) : Bool := sB L w c i && (decide (hoN P L w c i < puN P L w c i) || (decide (cF P i ≠ 0) && (fB w (p1 P i) || fB w (p2 P i))))
def psW (P : Nat → Int32) (L : Nat) (c : Nat → Int32) : Nat → Nat → (Nat → Int32) → Nat → Int32
  | 0, _, w => w
  | k + 1, i, w => psW P L c k (i + 1) (if gB P L w c i = true then upd w i (nI (L - 1)) else w)
def seW (P : Nat → Int32) (L : Nat) (c : Nat → Int32) : Nat → (Nat → Int32) → Nat → Int32
  | 0, w => w
  | n + 1, w => seW P L c n (psW P L c L 0 w)
def SE (P : Nat → Int32) (L : Nat) (c w : Nat → Int32) : Nat → Int32 := seW P L c 61 w
def stab (P : Nat → Int32) (L : Nat) (w c : Nat → Int32) : Prop := ∀ i, i < L → gB P L w c i = false
