/-! ===== PURE: reading and writing rows, guards, small numbers ===== -/
theorem wr_1 (h : TT) (i k : Nat) (v : Int32) (a b : Nat) : (wr h i k v).1 a b = if a = i ∧ b = k then v else h.1 a b := by
  unfold wr
  by_cases e : a = i
  · subst e
    by_cases e2 : b = k
    · simp [upd, e2]
    · simp [upd, e2]
  · simp [e]
theorem wr_2 (h : TT) (i k : Nat) (v : Int32) : (wr h i k v).2 = h.2 := rfl
theorem wrl_1 (h : TT) (i k : Nat) (v : Int64) : (wrl h i k v).1 = h.1 := rfl
theorem wrl_2 (h : TT) (i k : Nat) (v : Int64) (a b : Nat) : (wrl h i k v).2 a b = if a = i ∧ b = k then v else h.2 a b := by
  unfold wrl
  by_cases e : a = i
  · subst e
    by_cases e2 : b = k
    · simp [vp_updL, e2]
    · simp [vp_updL, e2]
  · simp [e]
theorem wrow_1 (h : TT) (i : Nat) (f : Nat → Int32) (a b : Nat) : (wrow h i f).1 a b = if a = i then f b else h.1 a b := by
  unfold wrow
  by_cases e : a = i <;> simp [e]
theorem wrow_2 (h : TT) (i : Nat) (f : Nat → Int32) : (wrow h i f).2 = h.2 := rfl
/-- a number that is no place, or a place -/
theorem place (x : Int32) (n : Nat) (hn : n < 2 ^ 31) : (∃ j, j < n ∧ x = nI j) ∨ (¬ (0 ≤ x ∧ x < nI n)) := by
  rcases pk_ix x hn with h | h | h
  · exact Or.inr (fun q => le_nlt q.1 h)
  · exact Or.inr (fun q => by
      have h1 := Int32.le_iff_toInt_le.mp h
      have h2 := Int32.lt_iff_toInt_lt.mp q.2
      omega)
  · exact Or.inl h
theorem nI_le0 {j : Nat} (h : j < 2 ^ 31) : (0 : Int32) ≤ nI j := nI_pos' h
theorem inb_nI {j n : Nat} (h : j < n) (hn : n < 2 ^ 31) : inb (nI j) n = true := by
  unfold inb
  rw [nI_clamp (by omega)]
  simp [nI_pos' (n := j) (by omega), h]
theorem i32_lt {x y : Int32} : x < y ↔ x.toInt < y.toInt := Int32.lt_iff_toInt_lt
theorem i32_le {x y : Int32} : x ≤ y ↔ x.toInt ≤ y.toInt := Int32.le_iff_toInt_le
theorem i32_eq {x y : Int32} : x = y ↔ x.toInt = y.toInt := ⟨fun h => by rw [h], fun h => Int32.toInt_inj.mp h⟩
theorem f_below (h : TT) (x n : Int32) : f_X7_isBelow h x n = some (if 0 ≤ x ∧ x < n then 1 else 0) := by
  unfold f_X7_isBelow
  by_cases h1 : x < 0
  · rw [if_pos h1, if_neg (fun q => le_nlt q.1 h1)]
  · have h2 : 0 ≤ x := by rw [i32_le]; rw [i32_lt] at h1; omega
    rw [if_neg h1]
    by_cases h3 : n ≤ x
    · rw [if_pos h3, if_neg (fun q => by have a := i32_le.mp h3; have b := i32_lt.mp q.2; omega)]
    · rw [if_neg h3, if_pos ⟨h2, by rw [i32_lt]; rw [i32_le] at h3; omega⟩]
theorem f_upto (h : TT) (x n : Int32) : f_X7_isUpTo h x n = some (if 0 ≤ x ∧ x ≤ n then 1 else 0) := by
  unfold f_X7_isUpTo
  by_cases h1 : x < 0
  · rw [if_pos h1, if_neg (fun q => le_nlt q.1 h1)]
  · have h2 : 0 ≤ x := by rw [i32_le]; rw [i32_lt] at h1; omega
    rw [if_neg h1]
    by_cases h3 : n < x
    · rw [if_pos h3, if_neg (fun q => by have a := i32_lt.mp h3; have b := i32_le.mp q.2; omega)]
    · rw [if_neg h3, if_pos ⟨h2, by rw [i32_le]; rw [i32_lt] at h3; omega⟩]
theorem f_in (h : TT) (x a b : Int32) : f_X8_in h x a b = some (if a ≤ x ∧ x ≤ b then 1 else 0) := by
  unfold f_X8_in
  by_cases h1 : x < a
  · rw [if_pos h1, if_neg (fun q => by have a := i32_lt.mp h1; have b := i32_le.mp q.1; omega)]
  · have h2 : a ≤ x := by rw [i32_le]; rw [i32_lt] at h1; omega
    rw [if_neg h1]
    by_cases h3 : b < x
    · rw [if_pos h3, if_neg (fun q => by have a := i32_lt.mp h3; have b := i32_le.mp q.2; omega)]
    · rw [if_neg h3, if_pos ⟨h2, by rw [i32_le]; rw [i32_lt] at h3; omega⟩]
theorem isZ_if {c : Prop} [Decidable c] : isZ (if c then 1 else 0) = true := by
  by_cases h : c <;> simp [isZ, h]
theorem f_isRow (h : TT) (x : Int32) : f_X8_isRow h x = some (if 0 ≤ x ∧ x ≤ 5 then 1 else 0) := by
  unfold f_X8_isRow
  rw [f_in, Option.bind_some, if_pos isZ_if]
theorem f_isText (h : TT) (x : Int32) : f_X8_isText h x = some (if 0 ≤ x ∧ x ≤ 3 then 1 else 0) := by
  unfold f_X8_isText
  rw [f_in, Option.bind_some, if_pos isZ_if]
theorem f_isPlace (h : TT) (x : Int32) : f_X8_isPlace h x = some (if 0 ≤ x ∧ x ≤ 3 then 1 else 0) := by
  unfold f_X8_isPlace
  rw [f_in, Option.bind_some, if_pos isZ_if]
theorem f_isMany (h : TT) (x : Int32) : f_X8_isMany h x = some (if 0 ≤ x ∧ x ≤ 9 then 1 else 0) := by
  unfold f_X8_isMany
  rw [f_in, Option.bind_some, if_pos isZ_if]
/-- 'not above n - 1' and 'below n' -/
theorem le_pred {x n : Int32} (hn : 0 ≤ n ∨ n = -1) : (0 ≤ x ∧ x ≤ n - 1) ↔ (0 ≤ x ∧ x < n) := by
  have h1 : (n - 1).toInt = n.toInt - 1 ∨ n.toInt ≤ -2 := by
    rcases hn with h | h
    · left
      have h0 := i32_le.mp h
      have h2 : (0 : Int32).toInt = 0 := rfl
      rw [h2] at h0
      have h3 := Int32.toInt_lt n
      rw [Int32.toInt_sub]
      have h4 : (1 : Int32).toInt = 1 := rfl
      rw [h4]
      exact Int.bmod_eq_of_le (by omega) (by omega)
    · subst h
      left
      rfl
  rcases h1 with h1 | h1
  · rw [i32_le, i32_lt (x := x), i32_le (x := x), h1]
    constructor <;> intro h <;> exact ⟨h.1, by omega⟩
  · rcases hn with h | h
    · have := i32_le.mp h
      have h2 : (0 : Int32).toInt = 0 := rfl
      omega
    · subst h
      have h3 : (-1 : Int32).toInt = -1 := rfl
      omega
theorem f_tell (h : TT) (v : Int32) : f_X7_tell h v = some (1, wr h 0 13 v) := rfl
theorem f_tellsBy (h : TT) (v a : Int32) : f_X8_tellsBy h v a = some (a, wr h 147 2 v) := rfl
def hFind (h : TT) (f : Nat) : TT := wr (wr h 0 16 (nI f)) 146 f (h.1 146 f + 1)
def hMeet (h : TT) (f : Nat) : TT := wr (wr h 147 0 (nI f)) 148 f (h.1 148 f + 1)
theorem f_found (h : TT) {f : Nat} (hf : f < 6) : f_X7_found h (nI f) = some (-3, hFind h f) := by
  unfold f_X7_found
  simp only [nm]
  have h1 : (0 : Int32) ≤ nI f ∧ nI f ≤ 5 := ⟨nI_pos' (by omega), nI_le (b := 5) (by omega) (by decide)⟩
  rw [f_upto, Option.bind_some, if_pos h1, if_neg (by decide), if_pos (inb_nI hf (by decide)), if_pos (inb_nI hf (by decide)), nI_clamp (by omega)]
  unfold hFind
  rw [wr_1, if_neg (by omega)]
theorem f_meets (h : TT) {f : Nat} (hf : f < 6) : f_X8_meets h (nI f) = some (-3, hMeet h f) := by
  unfold f_X8_meets
  simp only [nm]
  rw [if_pos (inb_nI hf (by decide)), if_pos (inb_nI hf (by decide)), nI_clamp (by omega)]
  unfold hMeet
  rw [wr_1, if_neg (by omega)]
theorem KF_ge : 760 < KF := by decide
/-- Arrays.fill of ints -/
theorem fill_loop {a n : Nat} (hn : n < 2 ^ 31) {v : Int32} : ∀ (k f i : Nat) (h : TT), i + k = n → k < f → f_J7_fill_53178_5 a n f v (nI i) (nI n) h = some (wrow h a (fun j => if i ≤ j ∧ j < n then v else h.1 a j)) := by
  intro k
  induction k with
  | zero =>
    intro f i h hi hf
    obtain ⟨f, rfl⟩ : ∃ g, f = g + 1 := ⟨f - 1, by omega⟩
    have e0 : i = n := by omega
    subst e0
    rw [f_J7_fill_53178_5, if_pos (nI_le (Nat.le_refl _) hn)]
    congr 1
    refine Prod.ext (funext fun b => funext fun j => ?_) rfl
    rw [wrow_1]
    by_cases e : b = a
    · subst e
      rw [if_pos rfl, if_neg (by omega)]
    · rw [if_neg e]
  | succ k ih =>
    intro f i h hi hf
    obtain ⟨f, rfl⟩ : ∃ g, f = g + 1 := ⟨f - 1, by omega⟩
    rw [f_J7_fill_53178_5, if_neg (nI_ge (by omega) hn), if_pos (inb_nI (by omega) hn), nI_clamp (by omega)]
    simp only [nm]
    rw [show nI i + 1 = nI (i + 1) from nI_1 i, ih f (i + 1) _ (by omega) (by omega)]
    congr 1
    refine Prod.ext (funext fun b => funext fun j => ?_) rfl
    rw [wrow_1, wrow_1]
    by_cases e : b = a
    · subst e
      rw [if_pos rfl, if_pos rfl, wr_1]
      by_cases e1 : i + 1 ≤ j ∧ j < n
      · rw [if_pos e1, if_pos (by omega)]
      · rw [if_neg e1]
        by_cases e2 : j = i
        · rw [if_pos ⟨rfl, e2⟩, if_pos (by omega)]
        · rw [if_neg (fun q => e2 q.2), if_neg (by omega)]
    · rw [if_neg e, if_neg e, wr_1, if_neg (fun q => e q.1)]
