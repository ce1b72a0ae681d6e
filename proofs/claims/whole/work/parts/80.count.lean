/-! ===== count ===== -/
def c4B (h : TT) (w k : Nat) : Bool := if w = 0 then !decide (h.1 154 k = 0) else if w = 1 then !decide (h.1 156 k = 0) else if w = 5 then (!decide (k = 0) && !decide (h.1 160 k = 0)) else if w = 7 then !decide (h.1 152 k < 0) else false
def c6B (h : TT) (w r : Nat) : Bool := if w = 6 then !decide (h.1 149 r < 0) else false
section INV
variable {h h' g s : TT} {P : Nat → Int32} {L : Nat} {w c : Nat → Int32}
theorem c4_75 {k4 : Int32 → Int32 → Int32 → TT → Option (Int32 × TT)} {w i a : Nat} {h : TT} (x : Bool) : (if x = true then f_X8_counted_70 k4 (nI w) (nI i) (nI a) h else f_X8_counted_74 k4 (nI w) (nI i) (nI a) h) = k4 (nI w) (nI (a + (if x = true then 1 else 0))) (nI (i + 1)) h := by
  cases x with
  | false =>
    rw [if_neg (by decide), if_neg (by decide)]
    unfold f_X8_counted_74 f_X8_counted_75
    rw [nm_eq, nI_1, show nI a + 0 = nI (a + 0) from nI_add a 0]
  | true =>
    rw [if_pos rfl, if_pos rfl]
    unfold f_X8_counted_70 f_X8_counted_75
    rw [nm_eq, nI_1, nI_1]
theorem c4_step {k4 : Int32 → Int32 → Int32 → TT → Option (Int32 × TT)} {w i a : Nat} {h : TT} (hw : w < 8) (hi : i < 4) : (if nI w = 0 then if inb (nI i) 4 = true then (if (h.1 154 (nI i).toNatClampNeg) = 0 then f_X8_counted_23 k4 (nI w) (nI i) (nI a) h else f_X8_counted_70 k4 (nI w) (nI i) (nI a) h) else none else f_X8_counted_23 k4 (nI w) (nI i) (nI a) h) = k4 (nI w) (nI (a + (if c4B h w i = true then 1 else 0))) (nI (i + 1)) h := by
  have ii : inb (nI i) 4 = true := inb_nI hi (by decide)
  have ci : (nI i).toNatClampNeg = i := nI_clamp (by omega)
  refine Eq.trans ?_ (c4_75 (c4B h w i))
  rw [ci, if_pos ii]
  rcases (show w = 0 ∨ w = 1 ∨ w = 2 ∨ w = 3 ∨ w = 4 ∨ w = 5 ∨ w = 6 ∨ w = 7 by omega) with rfl | rfl | rfl | rfl | rfl | rfl | rfl | rfl
  · unfold f_X8_counted_23 f_X8_counted_37 f_X8_counted_55
    rw [show c4B h 0 i = !decide (h.1 154 i = 0) from rfl]
    rw [if_pos (show nI 0 = 0 by decide)]
    by_cases e : h.1 154 i = 0
    · rw [if_pos e, decide_eq_true e, if_neg (show ¬ (!true) = true by decide), if_neg (show ¬ nI 0 = 1 by decide), if_neg (show ¬ nI 0 = 5 by decide), if_neg (show ¬ nI 0 = 7 by decide)]
    · rw [if_neg e, decide_eq_false e, if_pos (show (!false) = true by decide)]
  · unfold f_X8_counted_23 f_X8_counted_37 f_X8_counted_55
    rw [show c4B h 1 i = !decide (h.1 156 i = 0) from rfl]
    rw [if_neg (show ¬ nI 1 = 0 by decide), if_pos (show nI 1 = 1 by decide), if_pos ii, ci]
    by_cases e : h.1 156 i = 0
    · rw [if_pos e, decide_eq_true e, if_neg (show ¬ (!true) = true by decide), if_neg (show ¬ nI 1 = 5 by decide), if_neg (show ¬ nI 1 = 7 by decide)]
    · rw [if_neg e, decide_eq_false e, if_pos (show (!false) = true by decide)]
  · unfold f_X8_counted_23 f_X8_counted_37 f_X8_counted_55
    rw [show c4B h 2 i = false from rfl]
    rw [if_neg (show ¬ nI 2 = 0 by decide), if_neg (show ¬ nI 2 = 1 by decide), if_neg (show ¬ nI 2 = 5 by decide), if_neg (show ¬ nI 2 = 7 by decide), if_neg (show ¬ false = true by decide)]
  · unfold f_X8_counted_23 f_X8_counted_37 f_X8_counted_55
    rw [show c4B h 3 i = false from rfl]
    rw [if_neg (show ¬ nI 3 = 0 by decide), if_neg (show ¬ nI 3 = 1 by decide), if_neg (show ¬ nI 3 = 5 by decide), if_neg (show ¬ nI 3 = 7 by decide), if_neg (show ¬ false = true by decide)]
  · unfold f_X8_counted_23 f_X8_counted_37 f_X8_counted_55
    rw [show c4B h 4 i = false from rfl]
    rw [if_neg (show ¬ nI 4 = 0 by decide), if_neg (show ¬ nI 4 = 1 by decide), if_neg (show ¬ nI 4 = 5 by decide), if_neg (show ¬ nI 4 = 7 by decide), if_neg (show ¬ false = true by decide)]
  · unfold f_X8_counted_23 f_X8_counted_37 f_X8_counted_55
    rw [show c4B h 5 i = (!decide (i = 0) && !decide (h.1 160 i = 0)) from rfl]
    rw [if_neg (show ¬ nI 5 = 0 by decide), if_neg (show ¬ nI 5 = 1 by decide), if_pos (show nI 5 = 5 by decide), if_pos ii, ci]
    by_cases e0 : i = 0
    · rw [if_pos (show nI i ≤ 0 by rw [e0]; decide), decide_eq_true e0, Bool.not_true, Bool.false_and, if_neg (show ¬ false = true by decide), if_neg (show ¬ nI 5 = 7 by decide)]
    · rw [if_neg (show ¬ nI i ≤ 0 from nI_nle (by omega) (by omega)), decide_eq_false e0, Bool.not_false, Bool.true_and]
      by_cases e : h.1 160 i = 0
      · rw [if_pos e, decide_eq_true e, if_neg (show ¬ (!true) = true by decide), if_neg (show ¬ nI 5 = 7 by decide), if_pos ii]
      · rw [if_neg e, decide_eq_false e, if_pos (show (!false) = true by decide), if_pos ii]
  · unfold f_X8_counted_23 f_X8_counted_37 f_X8_counted_55
    rw [show c4B h 6 i = false from rfl]
    rw [if_neg (show ¬ nI 6 = 0 by decide), if_neg (show ¬ nI 6 = 1 by decide), if_neg (show ¬ nI 6 = 5 by decide), if_neg (show ¬ nI 6 = 7 by decide), if_neg (show ¬ false = true by decide)]
  · unfold f_X8_counted_23 f_X8_counted_37 f_X8_counted_55
    rw [show c4B h 7 i = !decide (h.1 152 i < 0) from rfl]
    rw [if_neg (show ¬ nI 7 = 0 by decide), if_neg (show ¬ nI 7 = 1 by decide), if_neg (show ¬ nI 7 = 5 by decide), if_pos (show nI 7 = 7 by decide), if_pos ii, ci]
    by_cases e : h.1 152 i < 0
    · rw [if_pos e, decide_eq_true e, if_neg (show ¬ (!true) = true by decide)]
    · rw [if_neg e, decide_eq_false e, if_pos (show (!false) = true by decide)]
theorem m_c4 {w : Nat} (hw : w < 8) : ∀ (d n i : Nat), i + d = 4 → d < n → f_X8_counted_4 n (nI w) (nI (cnt (c4B h w) i)) (nI i) h = f_X8_counted_85 KF (nI w) (nI (cnt (c4B h w) 4)) (nI 0) h := by
  intro d
  induction d with
  | zero =>
    intro n i hi hn
    obtain ⟨n, rfl⟩ : ∃ g, n = g + 1 := ⟨n - 1, by omega⟩
    obtain rfl : i = 4 := by omega
    rw [f_X8_counted_4, if_pos (by decide), show (0 : Int32) = nI 0 from rfl]
  | succ d ih =>
    intro n i hi hn
    obtain ⟨n, rfl⟩ : ∃ g, n = g + 1 := ⟨n - 1, by omega⟩
    have q := ih n (i + 1) (by omega) (by omega)
    rw [cnt] at q
    rw [f_X8_counted_4, if_neg (show ¬ (4 : Int32) ≤ nI i from nI_ge (b := 4) (by omega) (by omega)), c4_step hw (by omega)]
    exact q
/-- what the reference counts of the house as it is -/
def hcN (L : Nat) (w : Nat → Int32) (n : Nat) : Nat := if n = 2 then L else if n = 3 then cnt (fB w) L else 0
def endM (h : TT) (w : Nat) (a : Nat) : Option (Int32 × TT) := (f_X8_look h (0 : Int32)).bind fun h3 => if inb (0 : Int32) 4 = true then (if (h3.1 160 (0 : Int32).toNatClampNeg) = 0 then f_X8_counted_212 (nI a) h3 else (if nI w = (2 : Int32) then (f_X8_v h3 (31 : Int32)).bind fun r7 => f_X8_counted_162 (nI w) r7 (nI a) h3 else (if nI w = (3 : Int32) then (f_X8_slumpedMany h3).bind fun r18 => f_X8_counted_162 (nI w) r18 (nI a) h3 else f_X8_counted_162 (nI w) (0 : Int32) (nI a) h3))) else none
theorem m_c85 {w a0 : Nat} (hw : w < 8) : ∀ (d n i : Nat), i + d = 6 → d < n → f_X8_counted_85 n (nI w) (nI (a0 + cnt (c6B h w) i)) (nI i) h = endM h w (a0 + cnt (c6B h w) 6) := by
  intro d
  induction d with
  | zero =>
    intro n i hi hn
    obtain ⟨n, rfl⟩ : ∃ g, n = g + 1 := ⟨n - 1, by omega⟩
    obtain rfl : i = 6 := by omega
    rw [f_X8_counted_85, if_pos (by decide)]
    rfl
  | succ d ih =>
    intro n i hi hn
    obtain ⟨n, rfl⟩ : ∃ g, n = g + 1 := ⟨n - 1, by omega⟩
    have q := ih n (i + 1) (by omega) (by omega)
    rw [cnt] at q
    rw [f_X8_counted_85, if_neg (show ¬ (6 : Int32) ≤ nI i from nI_ge (b := 6) (by omega) (by omega))]
    unfold f_X8_counted_111 f_X8_counted_112
    rw [nI_1, if_pos (inb_nI (by omega) (by decide)), nI_clamp (by omega)]
    by_cases e6 : w = 6
    · subst e6
      rw [if_pos (by decide)]
      by_cases e : h.1 149 i < 0
      · rw [show c6B h 6 i = false by unfold c6B; rw [if_pos rfl, decide_eq_true e]; rfl] at q
        rw [if_pos e, nm_eq, show ∀ n : Nat, nI n + 0 = nI (n + 0) from fun n => nI_add n 0]
        exact q
      · rw [show c6B h 6 i = true by unfold c6B; rw [if_pos rfl, decide_eq_false e]; rfl] at q
        rw [if_neg e, nm_eq, nI_1]
        exact q
    · rw [show c6B h w i = false by unfold c6B; rw [if_neg e6]] at q
      rw [if_neg (fun z : nI w = 6 => e6 ((nI_eq (by omega) (by decide)).mp (show nI w = nI 6 from z))), nm_eq, show ∀ n : Nat, nI n + 0 = nI (n + 0) from fun n => nI_add n 0]
      exact q
def f4B (w : Nat → Int32) (n i : Nat) : Bool := decide (n = 4) && !fB w i
theorem m_c166 {b : Nat} (ok : MOK h b) (hW : WF P) (hL : L ≤ aF P) {n : Nat} (hn : n < 8) : ∀ (d f i a : Nat), i + d = min (zF P 0) L → d < f → f_X8_counted_166 f (nI n) (nI (a + cnt (f4B w n) i)) (nI i) (MSt h b P L w c) = some (nI (a + cnt (f4B w n) (min (zF P 0) L)), MSt h b P L w c) := by
  have h60 := hW.a60
  have m1 := hW.1.1
  have z := hW.1.2.2.1 0 (by omega)
  have sz : f_X8_size (MSt h b P L w c) 0 = some (nI (zF P 0)) := m_size (y := 0) ok hW (by omega)
  intro d
  induction d with
  | zero =>
    intro f i a hi hf
    obtain ⟨f, rfl⟩ : ∃ g, f = g + 1 := ⟨f - 1, by omega⟩
    rw [f_X8_counted_166, sz, Option.bind_some]
    unfold f_X8_counted_212
    by_cases e : zF P 0 ≤ i
    · rw [if_pos (nI_le e (by omega)), show i = min (zF P 0) L by omega]
    · rw [if_neg (nI_ge (by omega) (by omega)), v_L ok, Option.bind_some, if_pos (nI_le (by omega) (by omega)), show i = min (zF P 0) L by omega]
  | succ d ih =>
    intro f i a hi hf
    obtain ⟨f, rfl⟩ : ∃ g, f = g + 1 := ⟨f - 1, by omega⟩
    have q := ih f (i + 1) a (by omega) (by omega)
    rw [cnt] at q
    rw [f_X8_counted_166, sz, Option.bind_some, if_neg (nI_ge (by omega) (by omega)), v_L ok, Option.bind_some, if_neg (nI_ge (by omega) (by omega))]
    unfold f_X8_counted_203 f_X8_counted_204
    rw [nI_1 i]
    by_cases e4 : n = 4
    · subst e4
      rw [if_pos (by decide), m_slumped ok (by omega), Option.bind_some]
      cases e : fB w i with
      | false =>
        rw [show f4B w 4 i = true by unfold f4B; rw [e]; rfl] at q
        rw [if_pos bIf, nm_eq, nI_1]
        exact q
      | true =>
        rw [show f4B w 4 i = false by unfold f4B; rw [e]; rfl] at q
        rw [if_neg (bI_t rfl), nm_eq, show ∀ n : Nat, nI n + 0 = nI (n + 0) from fun n => nI_add n 0]
        exact q
    · rw [show f4B w n i = false by unfold f4B; rw [decide_eq_false e4]; rfl] at q
      rw [if_neg (fun z : nI n = 4 => e4 ((nI_eq (by omega) (by decide)).mp (show nI n = nI 4 from z))), nm_eq, show ∀ n : Nat, nI n + 0 = nI (n + 0) from fun n => nI_add n 0]
      exact q
/-- what both count -/
def ctN (h : TT) (L : Nat) (w P : Nat → Int32) (n : Nat) : Nat := cnt (c4B h n) 4 + cnt (c6B h n) 6 + (if h.1 160 0 = 0 then 0 else hcN L w n + cnt (f4B w n) (min (zF P 0) L))
theorem m_count0 (z0 : h.1 160 0 = 0) {n : Nat} (hn : n < 8) : f_X8_counted h (nI n) = some (nI (cnt (c4B h n) 4 + cnt (c6B h n) 6), lk0 h) := by
  unfold f_X8_counted
  rw [show (0 : Int32) = nI 0 from rfl]
  refine (m_c4 hn 4 KF 0 (by omega) (by decide)).trans ?_
  refine (m_c85 (a0 := cnt (c4B h n) 4) hn 6 KF 0 (by omega) (by decide)).trans ?_
  unfold endM f_X8_counted_212
  rw [m_look0, Option.bind_some, if_pos ib04', tn0, lk0_r (by omega), if_pos z0]
theorem m_count1 (H : HOk h 41 0 P L w c) (z1 : h.1 160 0 = 1) {n : Nat} (hn : n < 8) : f_X8_counted h (nI n) = some (nI (cnt (c4B h n) 4 + cnt (c6B h n) 6 + hcN L w n + cnt (f4B w n) (min (zF P 0) L)), lk0 h) := by
  have h60 := H.1.a60
  have hL := H.2.2.2.1.1
  unfold f_X8_counted
  rw [show (0 : Int32) = nI 0 from rfl]
  refine (m_c4 hn 4 KF 0 (by omega) (by decide)).trans ?_
  refine (m_c85 (a0 := cnt (c4B h n) 4) hn 6 KF 0 (by omega) (by decide)).trans ?_
  have fin : ∀ x : Nat, f_X8_counted_162 (nI n) (nI x) (nI (cnt (c4B h n) 4 + cnt (c6B h n) 6)) (lk0 h) = some (nI (cnt (c4B h n) 4 + cnt (c6B h n) 6 + x + cnt (f4B w n) (min (zF P 0) L)), lk0 h) := fun x => by
    unfold f_X8_counted_162
    rw [nm_eq, nI_add, H.ms rfl, show (0 : Int32) = nI 0 from rfl]
    exact m_c166 lk0_ok H.1 hL hn (min (zF P 0) L) KF 0 (cnt (c4B h n) 4 + cnt (c6B h n) 6 + x) (by omega) (by have := KF_ge; omega)
  unfold endM
  rw [m_look0, Option.bind_some, if_pos ib04', tn0, lk0_r (by omega), if_neg (by rw [z1]; decide)]
  unfold hcN
  by_cases e2 : n = 2
  · subst e2
    have q := v_L (h := lk0 h) (b := 0) (P := P) (L := L) (w := w) (c := c) lk0_ok
    rw [← H.ms rfl] at q
    rw [if_pos (by decide), q, Option.bind_some, if_pos rfl]
    exact fin L
  · rw [if_neg (fun z : nI n = 2 => e2 ((nI_eq (by omega) (by decide)).mp (show nI n = nI 2 from z))), if_neg e2]
    by_cases e3 : n = 3
    · subst e3
      have q := m_many (h := lk0 h) (b := 0) (P := P) (L := L) (w := w) (c := c) lk0_ok (by omega)
      rw [← H.ms rfl] at q
      rw [if_pos (by decide), q, Option.bind_some, if_pos rfl]
      exact fin _
    · rw [if_neg (fun z : nI n = 3 => e3 ((nI_eq (by omega) (by decide)).mp (show nI n = nI 3 from z))), if_neg e3]
      exact fin 0
end INV
