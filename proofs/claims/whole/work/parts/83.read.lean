/-! ===== the reader: both states, signs, numbers ===== -/
def rR (k : Nat → Int32) (t n p c : Nat) (v : Int32) : Nat → Int32 := fun j => if j = 2 then nI c else if j = 3 then nI (10 + t) else if j = 4 then nI n else if j = 5 then nI p else if j = 6 then v else k j
def CS (h : TT) (t n p c : Nat) (v : Int32) (W A F S L : Nat → Int32) : TT := (fun a => if a = 127 then rR (h.1 127) t n p c v else if a = 129 then W else if a = 130 then A else if a = 131 then F else if a = 132 then S else if a = 133 then L else h.1 a, h.2)
def rM (k : Nat → Int32) (p : Nat) (v : Int32) (c q : Nat) : Nat → Int32 := fun j => if j = 14 then nI p else if j = 15 then v else if j = 16 then nI c else if j = 17 then nI q else k j
def MZ (g : TT) (p : Nat) (v : Int32) (c q : Nat) (W Q : Nat → Int32) : TT := (fun a => if a = 147 then rM (g.1 147) p v c q else if a = 158 then W else if a = 159 then Q else g.1 a, g.2)
section RD
variable {h g : TT} {t n p c q : Nat} {v x : Int32} {W A F S L Q T : Nat → Int32}
theorem cs_row {a : Nat} (e1 : a ≠ 127) (e2 : a ≠ 129) (e3 : ¬ (130 ≤ a ∧ a ≤ 133)) : (CS h t n p c v W A F S L).1 a = h.1 a := by
  show (if a = 127 then rR (h.1 127) t n p c v else if a = 129 then W else if a = 130 then A else if a = 131 then F else if a = 132 then S else if a = 133 then L else h.1 a) = h.1 a
  rw [if_neg e1, if_neg e2, if_neg (by omega), if_neg (by omega), if_neg (by omega), if_neg (by omega)]
theorem ms_row {a : Nat} (e1 : a ≠ 147) (e2 : a ≠ 158) (e3 : a ≠ 159) : (MZ g p v c q W Q).1 a = g.1 a := by
  show (if a = 147 then rM (g.1 147) p v c q else if a = 158 then W else if a = 159 then Q else g.1 a) = g.1 a
  rw [if_neg e1, if_neg e2, if_neg e3]
theorem cs_3 : (CS h t n p c v W A F S L).1 127 3 = nI (10 + t) := rfl
theorem cs_4 : (CS h t n p c v W A F S L).1 127 4 = nI n := rfl
theorem cs_5 : (CS h t n p c v W A F S L).1 127 5 = nI p := rfl
theorem cs_6 : (CS h t n p c v W A F S L).1 127 6 = v := rfl
theorem cs_2 : (CS h t n p c v W A F S L).1 127 2 = nI c := rfl
theorem cs_A : (CS h t n p c v W A F S L).1 130 = A := rfl
theorem ms_14 : (MZ g p v c q W Q).1 147 14 = nI p := rfl
theorem ms_15 : (MZ g p v c q W Q).1 147 15 = v := rfl
theorem ms_16 : (MZ g p v c q W Q).1 147 16 = nI c := rfl
theorem ms_17 : (MZ g p v c q W Q).1 147 17 = nI q := rfl
theorem ms_W : (MZ g p v c q W Q).1 158 = W := rfl
theorem ms_Q : (MZ g p v c q W Q).1 159 = Q := rfl
theorem cs_p {p' : Nat} : wr (CS h t n p c v W A F S L) 127 5 (nI p') = CS h t n p' c v W A F S L := by
  refine Prod.ext (funext fun a => funext fun j => ?_) rfl
  rw [wr_1]
  by_cases e : a = 127
  · subst e
    by_cases ej : j = 5
    · subst ej
      rfl
    · rw [if_neg (fun z => ej z.2)]
      show rR (h.1 127) t n p c v j = rR (h.1 127) t n p' c v j
      unfold rR
      simp only [ej, if_false]
  · rw [if_neg (fun z => e z.1)]
    unfold CS
    simp only [e, if_false]
theorem cs_v {x : Int32} : wr (CS h t n p c v W A F S L) 127 6 (x) = CS h t n p c x W A F S L := by
  refine Prod.ext (funext fun a => funext fun j => ?_) rfl
  rw [wr_1]
  by_cases e : a = 127
  · subst e
    by_cases ej : j = 6
    · subst ej
      rfl
    · rw [if_neg (fun z => ej z.2)]
      show rR (h.1 127) t n p c v j = rR (h.1 127) t n p c x j
      unfold rR
      simp only [ej, if_false]
  · rw [if_neg (fun z => e z.1)]
    unfold CS
    simp only [e, if_false]
theorem cs_c {c' : Nat} : wr (CS h t n p c v W A F S L) 127 2 (nI c') = CS h t n p c' v W A F S L := by
  refine Prod.ext (funext fun a => funext fun j => ?_) rfl
  rw [wr_1]
  by_cases e : a = 127
  · subst e
    by_cases ej : j = 2
    · subst ej
      rfl
    · rw [if_neg (fun z => ej z.2)]
      show rR (h.1 127) t n p c v j = rR (h.1 127) t n p c' v j
      unfold rR
      simp only [ej, if_false]
  · rw [if_neg (fun z => e z.1)]
    unfold CS
    simp only [e, if_false]
theorem ms_p {p' : Nat} : wr (MZ g p v c q W Q) 147 14 (nI p') = MZ g p' v c q W Q := by
  refine Prod.ext (funext fun a => funext fun j => ?_) rfl
  rw [wr_1]
  by_cases e : a = 147
  · subst e
    by_cases ej : j = 14
    · subst ej
      rfl
    · rw [if_neg (fun z => ej z.2)]
      show rM (g.1 147) p v c q j = rM (g.1 147) p' v c q j
      unfold rM
      simp only [ej, if_false]
  · rw [if_neg (fun z => e z.1)]
    unfold MZ
    simp only [e, if_false]
theorem ms_v {x : Int32} : wr (MZ g p v c q W Q) 147 15 (x) = MZ g p x c q W Q := by
  refine Prod.ext (funext fun a => funext fun j => ?_) rfl
  rw [wr_1]
  by_cases e : a = 147
  · subst e
    by_cases ej : j = 15
    · subst ej
      rfl
    · rw [if_neg (fun z => ej z.2)]
      show rM (g.1 147) p v c q j = rM (g.1 147) p x c q j
      unfold rM
      simp only [ej, if_false]
  · rw [if_neg (fun z => e z.1)]
    unfold MZ
    simp only [e, if_false]
theorem ms_c {c' : Nat} : wr (MZ g p v c q W Q) 147 16 (nI c') = MZ g p v c' q W Q := by
  refine Prod.ext (funext fun a => funext fun j => ?_) rfl
  rw [wr_1]
  by_cases e : a = 147
  · subst e
    by_cases ej : j = 16
    · subst ej
      rfl
    · rw [if_neg (fun z => ej z.2)]
      show rM (g.1 147) p v c q j = rM (g.1 147) p v c' q j
      unfold rM
      simp only [ej, if_false]
  · rw [if_neg (fun z => e z.1)]
    unfold MZ
    simp only [e, if_false]
theorem ms_q {q' : Nat} : wr (MZ g p v c q W Q) 147 17 (nI q') = MZ g p v c q' W Q := by
  refine Prod.ext (funext fun a => funext fun j => ?_) rfl
  rw [wr_1]
  by_cases e : a = 147
  · subst e
    by_cases ej : j = 17
    · subst ej
      rfl
    · rw [if_neg (fun z => ej z.2)]
      show rM (g.1 147) p v c q j = rM (g.1 147) p v c q' j
      unfold rM
      simp only [ej, if_false]
  · rw [if_neg (fun z => e z.1)]
    unfold MZ
    simp only [e, if_false]
theorem cs_W {k : Nat} {x : Int32} : wr (CS h t n p c v W A F S L) 129 k x = CS h t n p c v (upd W k x) A F S L := by
  refine Prod.ext (funext fun a => funext fun j => ?_) rfl
  rw [wr_1]
  by_cases e : a = 129
  · subst e
    show (if 129 = 129 ∧ j = k then x else W j) = upd W k x j
    rw [upd_cases]
    by_cases ej : j = k
    · rw [if_pos ⟨rfl, ej⟩, if_pos ej]
    · rw [if_neg (fun z => ej z.2), if_neg ej]
  · rw [if_neg (fun z => e z.1)]
    unfold CS
    simp only [e, if_false]
theorem cs_wA {k : Nat} {x : Int32} : wr (CS h t n p c v W A F S L) 130 k x = CS h t n p c v W (upd A k x) F S L := by
  refine Prod.ext (funext fun a => funext fun j => ?_) rfl
  rw [wr_1]
  by_cases e : a = 130
  · subst e
    show (if 130 = 130 ∧ j = k then x else A j) = upd A k x j
    rw [upd_cases]
    by_cases ej : j = k
    · rw [if_pos ⟨rfl, ej⟩, if_pos ej]
    · rw [if_neg (fun z => ej z.2), if_neg ej]
  · rw [if_neg (fun z => e z.1)]
    unfold CS
    simp only [e, if_false]
theorem cs_wF {k : Nat} {x : Int32} : wr (CS h t n p c v W A F S L) 131 k x = CS h t n p c v W A (upd F k x) S L := by
  refine Prod.ext (funext fun a => funext fun j => ?_) rfl
  rw [wr_1]
  by_cases e : a = 131
  · subst e
    show (if 131 = 131 ∧ j = k then x else F j) = upd F k x j
    rw [upd_cases]
    by_cases ej : j = k
    · rw [if_pos ⟨rfl, ej⟩, if_pos ej]
    · rw [if_neg (fun z => ej z.2), if_neg ej]
  · rw [if_neg (fun z => e z.1)]
    unfold CS
    simp only [e, if_false]
theorem cs_wS {k : Nat} {x : Int32} : wr (CS h t n p c v W A F S L) 132 k x = CS h t n p c v W A F (upd S k x) L := by
  refine Prod.ext (funext fun a => funext fun j => ?_) rfl
  rw [wr_1]
  by_cases e : a = 132
  · subst e
    show (if 132 = 132 ∧ j = k then x else S j) = upd S k x j
    rw [upd_cases]
    by_cases ej : j = k
    · rw [if_pos ⟨rfl, ej⟩, if_pos ej]
    · rw [if_neg (fun z => ej z.2), if_neg ej]
  · rw [if_neg (fun z => e z.1)]
    unfold CS
    simp only [e, if_false]
theorem cs_wL {k : Nat} {x : Int32} : wr (CS h t n p c v W A F S L) 133 k x = CS h t n p c v W A F S (upd L k x) := by
  refine Prod.ext (funext fun a => funext fun j => ?_) rfl
  rw [wr_1]
  by_cases e : a = 133
  · subst e
    show (if 133 = 133 ∧ j = k then x else L j) = upd L k x j
    rw [upd_cases]
    by_cases ej : j = k
    · rw [if_pos ⟨rfl, ej⟩, if_pos ej]
    · rw [if_neg (fun z => ej z.2), if_neg ej]
  · rw [if_neg (fun z => e z.1)]
    unfold CS
    simp only [e, if_false]
theorem ms_wW {k : Nat} {x : Int32} : wr (MZ g p v c q W Q) 158 k x = MZ g p v c q (upd W k x) Q := by
  refine Prod.ext (funext fun a => funext fun j => ?_) rfl
  rw [wr_1]
  by_cases e : a = 158
  · subst e
    show (if 158 = 158 ∧ j = k then x else W j) = upd W k x j
    rw [upd_cases]
    by_cases ej : j = k
    · rw [if_pos ⟨rfl, ej⟩, if_pos ej]
    · rw [if_neg (fun z => ej z.2), if_neg ej]
  · rw [if_neg (fun z => e z.1)]
    unfold MZ
    simp only [e, if_false]
theorem ms_wQ {k : Nat} {x : Int32} : wr (MZ g p v c q W Q) 159 k x = MZ g p v c q W (upd Q k x) := by
  refine Prod.ext (funext fun a => funext fun j => ?_) rfl
  rw [wr_1]
  by_cases e : a = 159
  · subst e
    show (if 159 = 159 ∧ j = k then x else Q j) = upd Q k x j
    rw [upd_cases]
    by_cases ej : j = k
    · rw [if_pos ⟨rfl, ej⟩, if_pos ej]
    · rw [if_neg (fun z => ej z.2), if_neg ej]
  · rw [if_neg (fun z => e z.1)]
    unfold MZ
    simp only [e, if_false]
def bC (T : Nat → Int32) (n p : Nat) : Int32 := if p < n then T p else -1
def bM (T : Nat → Int32) (n p : Nat) : Int32 := if p < n then T p else 0
/-- the class's text t, and the reference's -/
def TC (h : TT) (t : Nat) (T : Nat → Int32) : Prop := t < 4 ∧ ∀ i, i < 80 → h.1 (10 + t) i = T i
def TM (g : TT) (t n : Nat) (T : Nat → Int32) : Prop := t < 4 ∧ g.1 152 t = nI n ∧ ∀ i, i < 80 → g.1 153 (80 * t + i) = T i
theorem c_sign (H : TC h t T) (hn : n ≤ 80) (hp : p ≤ 90) : f_X4_sign (CS h t n p c v W A F S L) = some (bC T n p) := by
  unfold f_X4_sign bC
  rw [cs_3, cs_4, cs_5, f_bel (by omega) (by omega), Option.bind_some, nI_clamp (by have := H.1; omega), nI_clamp (by omega), cs_row (by have := H.1; omega) (by have := H.1; omega) (by have := H.1; omega)]
  by_cases e : p < n
  · rw [decide_eq_true e, if_neg (bI_t rfl), if_pos (show isTx (10 + t) = true by have := H.1; unfold isTx; rw [decide_eq_true (by omega), decide_eq_true (by omega)]; rfl), if_pos (inb_nI (by omega) (by decide)), if_pos e, H.2 p (by omega)]
  · rw [decide_eq_false e, if_pos bIf, if_neg e]
theorem m_byte (H : TM g t n T) (hn : n ≤ 80) (hp : p ≤ 90) {p' : Nat} : f_X8_byteAt (MZ g p' v c q W Q) (nI t) (nI p) = some (bM T n p) := by
  have := H.1
  unfold f_X8_byteAt bM
  rw [if_pos (inb_nI (by omega) (by decide)), nI_clamp (by omega), ms_row (by omega) (by omega) (by omega), H.2.1]
  by_cases e : p < n
  · rw [if_neg (nI_ge e (by omega)), show (80 : Int32) * nI t + nI p = nI (80 * t + p) by rw [show (80 : Int32) = nI 80 from rfl, pk_mul, nI_add], if_pos (inb_nI (by omega) (by decide)), nI_clamp (by omega), ms_row (by omega) (by omega) (by omega), H.2.2 p (by omega), if_pos e]
  · rw [if_pos (nI_le (by omega) (by omega)), if_neg e]
def fgP (x : Int32) : Prop := 48 ≤ x ∧ x ≤ 57
theorem fgx (T : Nat → Int32) (n p : Nat) : (∃ d, d ≤ 9 ∧ p < n ∧ T p = nI (48 + d)) ∨ (¬ fgP (bC T n p) ∧ ¬ fgP (bM T n p)) := by
  unfold bC bM
  by_cases e : p < n
  · rw [if_pos e, if_pos e]
    by_cases z : fgP (T p)
    · refine Or.inl ⟨(T p).toInt.toNat - 48, ?_, e, ?_⟩
      · have a := i32_le.mp z.1
        have b := i32_le.mp z.2
        have e1 : (48 : Int32).toInt = 48 := rfl
        have e2 : (57 : Int32).toInt = 57 := rfl
        omega
      · have a := i32_le.mp z.1
        have b := i32_le.mp z.2
        have e1 : (48 : Int32).toInt = 48 := rfl
        have e2 : (57 : Int32).toInt = 57 := rfl
        refine i32_eq.mpr ?_
        rw [nI_toInt (by omega)]
        omega
    · exact Or.inr ⟨z, z⟩
  · rw [if_neg e, if_neg e]
    exact Or.inr ⟨fun z => absurd z.1 (by decide), fun z => absurd z.1 (by decide)⟩
theorem fg_nI {d : Nat} (h : d ≤ 9) : fgP (nI (48 + d)) := ⟨nI_le (a := 48) (by omega) (by omega), nI_le (b := 57) (by omega) (by omega)⟩
theorem bC_lt (e : p < n) : bC T n p = T p := if_pos e
theorem bM_lt (e : p < n) : bM T n p = T p := if_pos e
theorem c_isF (H : TC h t T) (hn : n ≤ 80) (hp : p ≤ 90) : (fgP (bC T n p) → f_X4_isFigure (CS h t n p c v W A F S L) = some 1) ∧ (¬ fgP (bC T n p) → f_X4_isFigure (CS h t n p c v W A F S L) = some 0) := by
  unfold f_X4_isFigure
  rw [c_sign H hn hp, Option.bind_some]
  generalize bC T n p = y
  refine ⟨fun z => ?_, fun z => ?_⟩
  · rw [if_neg (fun w => by have a := i32_lt.mp w; have b := i32_le.mp z.1; omega), if_neg (fun w => by have a := i32_lt.mp w; have b := i32_le.mp z.2; omega)]
  · by_cases e : y < 48
    · rw [if_pos e]
    · by_cases e1 : 57 < y
      · rw [if_neg e, if_pos e1]
      · exact absurd ⟨by have a := mt i32_lt.mpr e; rw [i32_le]; omega, by have a := mt i32_lt.mpr e1; rw [i32_le]; omega⟩ z
theorem d48 {d : Nat} (h : d ≤ 9) : nI (48 + d) - 48 = nI d := by
  rw [show (48 : Int32) = nI 48 from rfl, pk_sub (by omega), show 48 + d - 48 = d by omega]
/-- a number: k figures, worth w -/
theorem r_num (H : TC h t T) (G : TM g t n T) (hn : n ≤ 80) (hp : p ≤ n) : ∃ k w : Nat, (k = 0 ∨ (k ≠ 0 ∧ p + k ≤ n)) ∧ w ≤ 99 ∧ (∀ {c v W A F S L}, f_X4_readNumber (CS h t n p c v W A F S L) = if k = 0 then some (0, CS h t n p c v W A F S L) else some (1, CS h t n (p + k) c (nI w) W A F S L)) ∧ ∀ {v c q W Q lo hi}, f_X8_number (MZ g p v c q W Q) (nI t) lo hi = some (if k = 0 then 0 else if lo ≤ nI w ∧ nI w ≤ hi then 1 else 0, MZ g (p + k) (nI w) c q W Q) := by
  have fin : ∀ {k w p : Nat} {v c q W Q lo hi}, k ≤ 2 → f_X8_number_67 lo hi (nI k) (nI w) (MZ g p v c q W Q) = some (if k = 0 then 0 else if lo ≤ nI w ∧ nI w ≤ hi then 1 else 0, MZ g p (nI w) c q W Q) := fun {k w p v c q W Q lo hi} hk => by
    unfold f_X8_number_67
    rw [nm_eq, ms_v]
    by_cases e : k = 0
    · rw [if_pos (show nI k ≤ 0 by rw [e]; decide), if_pos e]
    · rw [if_neg (nI_nle (by omega) (by omega)), if_neg e, f_in, Option.bind_some]
      by_cases z : lo ≤ nI w ∧ nI w ≤ hi
      · rw [if_pos z, if_neg n1_0]
      · rw [if_neg z, if_pos rfl]
  have st : ∀ {f w k : Nat} {p : Nat} {v c q W Q lo hi}, p ≤ n → k < 2 → ¬ fgP (bM T n p) → f_X8_number_6 (f + 1) (nI t) lo hi (nI k) (nI w) (MZ g p v c q W Q) = f_X8_number_67 lo hi (nI k) (nI w) (MZ g p v c q W Q) := fun {f w k p v c q W Q lo hi} h1 h2 h3 => by
    rw [f_X8_number_6, if_neg (show ¬ (2 : Int32) ≤ nI k from nI_ge (b := 2) h2 (by omega)), ms_14, m_byte G hn (by omega), Option.bind_some, f_in, Option.bind_some, if_neg (show ¬ (48 ≤ bM T n p ∧ bM T n p ≤ 57) from h3), if_pos rfl]
  have go : ∀ {f w k d : Nat} {p : Nat} {v c q W Q lo hi}, p < n → k < 2 → d ≤ 9 → w ≤ 9 → T p = nI (48 + d) → f_X8_number_6 (f + 1) (nI t) lo hi (nI k) (nI w) (MZ g p v c q W Q) = f_X8_number_6 f (nI t) lo hi (nI (k + 1)) (nI (10 * w + d)) (MZ g (p + 1) v c q W Q) := fun {f w k d p v c q W Q lo hi} h1 h2 h3 h5 h4 => by
    rw [f_X8_number_6, if_neg (show ¬ (2 : Int32) ≤ nI k from nI_ge (b := 2) h2 (by omega)), ms_14, m_byte G hn (by omega), Option.bind_some, f_in, Option.bind_some, bM_lt h1, h4, if_pos (show 48 ≤ nI (48 + d) ∧ nI (48 + d) ≤ 57 from fg_nI h3), if_neg n1_0, Option.bind_some, nm_eq, nm_eq, nI_1 k, nI_1 p, ms_p, show (10 : Int32) * nI w + nI (48 + d) - 48 = nI (10 * w + d) by rw [show (10 : Int32) = nI 10 from rfl, show (48 : Int32) = nI 48 from rfl, pk_mul, nI_add, pk_sub (by omega), show 10 * w + (48 + d) - 48 = 10 * w + d by omega]]
  rcases fgx T n p with ⟨d, hd, e1, e2⟩ | ⟨e1, e2⟩
  · rcases fgx T n (p + 1) with ⟨d', hd', e1', e2'⟩ | ⟨e1', e2'⟩
    · refine ⟨2, 10 * d + d', Or.inr ⟨by omega, by omega⟩, by omega, fun {c v W A F S L} => ?_, fun {v c q W Q lo hi} => ?_⟩
      · unfold f_X4_readNumber
        rw [if_neg (show ¬ 2 = 0 by decide), (c_isF H hn (by omega)).1 (by rw [bC_lt e1, e2]; exact fg_nI hd), Option.bind_some, if_neg n1_0, c_sign H hn (by omega), Option.bind_some, bC_lt e1, e2, d48 hd, nm_eq, cs_v, nm_eq, cs_5, nI_1, cs_p, (c_isF H hn (by omega)).1 (by rw [bC_lt e1', e2']; exact fg_nI hd'), Option.bind_some, if_neg n1_0, c_sign H hn (by omega), Option.bind_some, bC_lt e1', e2', nm_eq, cs_6, show (10 : Int32) * nI d + nI (48 + d') - 48 = nI (10 * d + d') by rw [show (10 : Int32) = nI 10 from rfl, show (48 : Int32) = nI 48 from rfl, pk_mul, nI_add, pk_sub (by omega), show 10 * d + (48 + d') - 48 = 10 * d + d' by omega], cs_v, nm_eq, cs_5, nI_1, cs_p]
      · unfold f_X8_number
        rw [show KF = 997 + 1 + 1 + 1 from rfl, show (0 : Int32) = nI 0 from rfl, go e1 (by omega) hd (by omega) e2, go e1' (by omega) hd' (by omega) e2', f_X8_number_6, if_pos (show (2 : Int32) ≤ nI (0 + 1 + 1) by decide), fin (by omega), show 10 * (10 * 0 + d) + d' = 10 * d + d' by omega]
        rfl
    · refine ⟨1, d, Or.inr ⟨by omega, by omega⟩, by omega, fun {c v W A F S L} => ?_, fun {v c q W Q lo hi} => ?_⟩
      · unfold f_X4_readNumber
        rw [if_neg (show ¬ 1 = 0 by decide), (c_isF H hn (by omega)).1 (by rw [bC_lt e1, e2]; exact fg_nI hd), Option.bind_some, if_neg n1_0, c_sign H hn (by omega), Option.bind_some, bC_lt e1, e2, d48 hd, nm_eq, cs_v, nm_eq, cs_5, nI_1, cs_p, (c_isF H hn (by omega)).2 e1', Option.bind_some, if_pos rfl]
      · unfold f_X8_number
        rw [show KF = 997 + 1 + 1 + 1 from rfl, show (0 : Int32) = nI 0 from rfl, go e1 (by omega) hd (by omega) e2, st (by omega) (by omega) e2', fin (by omega), show 10 * 0 + d = d by omega]
        rfl
  · refine ⟨0, 0, Or.inl rfl, by omega, fun {c v W A F S L} => ?_, fun {v c q W Q lo hi} => ?_⟩
    · unfold f_X4_readNumber
      rw [(c_isF H hn (by omega)).2 e1, Option.bind_some, if_pos rfl, if_pos rfl]
    · unfold f_X8_number
      rw [show KF = 997 + 1 + 1 + 1 from rfl, show (0 : Int32) = nI 0 from rfl, st (by omega) (by omega) e2, fin (by omega)]
      rfl
/-- spaces -/
theorem c_more (H : TC h t T) (hn : n ≤ 80) (hp : p ≤ n) : ∃ e, p ≤ e ∧ e ≤ n ∧ (∀ i, p ≤ i → i < e → T i = 32) ∧ (e = n ∨ (e < n ∧ ¬ T e = 32)) ∧ ∀ {c v W A F S L}, f_X4_comesMore (CS h t n p c v W A F S L) = some (bI (decide (e < n)), CS h t n e c v W A F S L) := by
  have main : ∀ (d p : Nat), p + d = n → ∃ e, p ≤ e ∧ e ≤ n ∧ (∀ i, p ≤ i → i < e → T i = 32) ∧ (e = n ∨ (e < n ∧ ¬ T e = 32)) ∧ ∀ (f : Nat), d < f → ∀ {c v W A F S L}, f_X4_comesMore_0 f (CS h t n p c v W A F S L) = some (bI (decide (e < n)), CS h t n e c v W A F S L) := by
    intro d
    induction d with
    | zero =>
      intro p hp
      refine ⟨p, by omega, by omega, fun i _ _ => by omega, Or.inl (by omega), fun f hf {c v W A F S L} => ?_⟩
      obtain ⟨f, rfl⟩ : ∃ g, f = g + 1 := ⟨f - 1, by omega⟩
      rw [f_X4_comesMore_0, cs_4, cs_5, if_pos (nI_le (by omega) (by omega))]
      unfold f_X4_comesMore_33
      rw [cs_4, cs_5, if_pos (nI_le (by omega) (by omega)), decide_eq_false (by omega)]
      rfl
    | succ d ih =>
      intro p hp
      by_cases e : T p = 32
      · obtain ⟨e', a1, a2, a3, a4, a5⟩ := ih (p + 1) (by omega)
        refine ⟨e', by omega, a2, fun i h1 h2 => ?_, a4, fun f hf {c v W A F S L} => ?_⟩
        · by_cases ei : i = p
          · rw [ei, e]
          · exact a3 i (by omega) h2
        · obtain ⟨f, rfl⟩ : ∃ g, f = g + 1 := ⟨f - 1, by omega⟩
          rw [f_X4_comesMore_0, cs_4, cs_5, if_neg (nI_ge (by omega) (by omega)), c_sign H hn (by omega), Option.bind_some, bC_lt (by omega), if_pos e, nm_eq, nI_1, cs_p]
          exact a5 f (by omega)
      · refine ⟨p, by omega, by omega, fun i _ _ => by omega, Or.inr ⟨by omega, e⟩, fun f hf {c v W A F S L} => ?_⟩
        obtain ⟨f, rfl⟩ : ∃ g, f = g + 1 := ⟨f - 1, by omega⟩
        rw [f_X4_comesMore_0, cs_4, cs_5, if_neg (nI_ge (by omega) (by omega)), c_sign H hn (by omega), Option.bind_some, bC_lt (by omega), if_neg e]
        unfold f_X4_comesMore_33
        rw [cs_4, cs_5, if_neg (nI_ge (by omega) (by omega)), decide_eq_true (by omega)]
        rfl
  obtain ⟨e, a1, a2, a3, a4, a5⟩ := main (n - p) p (by omega)
  exact ⟨e, a1, a2, a3, a4, fun {c v W A F S L} => a5 KF (by have := KF_ge; omega)⟩
end RD
