section MODG
variable {h : TT} {b : Nat} {P : Nat → Int32} {L : Nat} {w c : Nat → Int32}
theorem sB_no {i : Nat} (hi : L ≤ i) : sB L w c i = false := by
  unfold sB
  rw [decide_eq_false (by omega), Bool.false_and]
theorem bIt : bI true = 1 := rfl
theorem bIf : bI false = 0 := rfl
theorem n1_0 : ¬ (1 : Int32) = 0 := by decide
theorem nI_s2 (i : Nat) : (2 : Int32) * nI i = nI (2 * i) := by rw [show (2 : Int32) = nI 2 from rfl, pk_mul]
theorem sn34 (ok : MOK h b) (hW : WF P) (hL : L ≤ aF P) {i a : Nat} (hi : i < aF P) (hf : P (7 + 3 * cF P i) = 2) : f_X8_soundNeighbours_34 (MSt h b P L w c) (nI i) (nI a) = some (nI (a + (if sB L w c (hF P i) = true then 1 else 0))) := by
  have h60 := hW.a60
  have e : hF P i = if i + 1 < aF P then i + 1 else 100 := if_pos hf
  unfold f_X8_soundNeighbours_34
  rw [m_all ok hW, Option.bind_some, nI_1]
  by_cases e1 : i + 1 < aF P
  · rw [if_neg (nI_ge e1 (by omega)), m_sound ok (by omega) (by omega), Option.bind_some, e, if_pos e1]
    cases sB L w c (i + 1) with
    | false => rw [if_pos bIf]; exact congrArg some (nI_add a 0)
    | true => rw [if_neg (fun q => n1_0 (bIt.symm.trans q))]; exact congrArg some (nI_1 a)
  · rw [if_pos (nI_le (by omega) (by omega)), e, if_neg e1, sB_no (by omega)]
    exact congrArg some (nI_add a 0)
theorem ring_one {s n i : Nat} (h1 : s ≤ i) (h2 : i < s + n) : s + (i - s + 1) % n = if i + 1 < s + n then i + 1 else s := by
  by_cases e : i + 1 < s + n
  · rw [if_pos e, Nat.mod_eq_of_lt (by omega)]; omega
  · rw [if_neg e, show i - s + 1 = n by omega, Nat.mod_self]; omega
theorem ring_oth {s n i : Nat} (h1 : s ≤ i) (h2 : i < s + n) : s + (i - s + n - 1) % n = if i = s then s + n - 1 else i - 1 := by
  by_cases e : i = s
  · rw [if_pos e, show i - s + n - 1 = n - 1 by omega, Nat.mod_eq_of_lt (by omega)]; omega
  · rw [if_neg e, show i - s + n - 1 = (i - s - 1) + n by omega, Nat.add_mod_right, Nat.mod_eq_of_lt (by omega)]; omega
theorem sn121 (ok : MOK h b) (hL : L ≤ 60) {i one oth a : Nat} (hi : i < 60) (h1 : one < 60) (h2 : oth < 60) : f_X8_soundNeighbours_121 (MSt h b P L w c) (nI i) (nI one) (nI oth) (nI a) = some (nI (a + (if oth ≠ i ∧ oth ≠ one ∧ sB L w c oth = true then 1 else 0))) := by
  unfold f_X8_soundNeighbours_121
  by_cases e1 : oth = i
  · rw [if_pos (by rw [e1]), if_neg (fun q => q.1 e1)]; exact congrArg some (nI_add a 0)
  · rw [if_neg (fun q => e1 ((nI_eq (by omega) (by omega)).mp q))]
    by_cases e2 : oth = one
    · rw [if_pos (by rw [e2]), if_neg (fun q => q.2.1 e2)]; exact congrArg some (nI_add a 0)
    · rw [if_neg (fun q => e2 ((nI_eq (by omega) (by omega)).mp q)), m_sound ok hL h2, Option.bind_some]
      cases e3 : sB L w c oth with
      | false => rw [if_pos bIf, if_neg (fun q => by cases q.2.2)]; exact congrArg some (nI_add a 0)
      | true => rw [if_neg (fun q => n1_0 (bIt.symm.trans q)), if_pos ⟨e1, e2, rfl⟩]; exact congrArg some (nI_1 a)
theorem m_sn (ok : MOK h b) (hW : WF P) (hL : L ≤ aF P) {i : Nat} (hi : i < aF P) : f_X8_soundNeighbours (MSt h b P L w c) (nI i) = some (nI (snN P L w c i)) := by
  have h60 := hW.a60
  have hc := cF_lt hW (i := i)
  have hm := mF8 hW
  have a := cF_lo (P := P) (i := i)
  have b2 := cF_hi hW hi
  have s := sF_all (P := P) hc
  have z := hW.1.2.2.1 _ hc
  unfold f_X8_soundNeighbours
  rw [m_crs ok hW hi, Option.bind_some, m_kind ok hW hc, Option.bind_some]
  by_cases hf : P (7 + 3 * cF P i) = 2
  · have eb : bF P i = if i = 0 then 100 else i - 1 := if_pos hf
    rw [if_pos hf]
    unfold snN
    by_cases e0 : i = 0
    · subst e0
      rw [if_pos (by decide)]
      show f_X8_soundNeighbours_34 (MSt h b P L w c) (nI 0) (nI 0) = _
      rw [sn34 ok hW hL hi hf, eb, if_pos rfl, sB_no (L := L) (w := w) (c := c) (i := 100) (by omega)]
      rfl
    · rw [if_neg (fun q => by have := (nI_leI (by omega) (by decide)).mp (show nI i ≤ nI 0 from q); omega), nI_p e0, m_sound ok (by omega) (by omega), Option.bind_some, eb, if_neg e0]
      cases sB L w c (i - 1) with
      | false =>
        rw [if_pos bIf]
        show f_X8_soundNeighbours_34 (MSt h b P L w c) (nI i) (nI 0) = _
        rw [sn34 ok hW hL hi hf]
        rfl
      | true =>
        rw [if_neg (fun q => n1_0 (bIt.symm.trans q))]
        show f_X8_soundNeighbours_34 (MSt h b P L w c) (nI i) (nI 1) = _
        rw [sn34 ok hW hL hi hf]
        rfl
  · have eb : bF P i = if zF P (cF P i) < 2 then 100 else if i = sF P (cF P i) then sF P (cF P i) + zF P (cF P i) - 1 else i - 1 := if_neg hf
    have eh : hF P i = if zF P (cF P i) < 3 then 100 else if i + 1 < sF P (cF P i) + zF P (cF P i) then i + 1 else sF P (cF P i) := if_neg hf
    rw [if_neg hf, m_start ok hW (by omega), Option.bind_some, m_size ok hW hc, Option.bind_some, if_neg (fun q => by have := (nI_z (by omega)).mp q; omega)]
    simp only [nm]
    rw [if_neg (fun q => by have := (nI_z (n := zF P (cF P i)) (by omega)).mp q; omega), pk_sub a, nI_1, pk_rem (by omega) (by omega) (by omega), nI_add, nI_add, show nI (i - sF P (cF P i) + zF P (cF P i)) - 1 = nI (i - sF P (cF P i) + zF P (cF P i) - 1) from nI_p (by omega), pk_rem (by omega) (by omega) (by omega), nI_add, ring_one a b2, ring_oth a b2]
    generalize ho : (if i + 1 < sF P (cF P i) + zF P (cF P i) then i + 1 else sF P (cF P i)) = one at eh ⊢
    generalize ht : (if i = sF P (cF P i) then sF P (cF P i) + zF P (cF P i) - 1 else i - 1) = oth at eb ⊢
    have o1 : one < 60 := by rw [← ho]; split <;> omega
    have o2 : oth < 60 := by rw [← ht]; split <;> omega
    have q120 : f_X8_soundNeighbours_120 (MSt h b P L w c) (nI i) (nI one) (nI oth) = some (nI (0 + (if oth ≠ i ∧ oth ≠ one ∧ sB L w c oth = true then 1 else 0))) := sn121 ok (by omega) (by omega) o1 o2 (a := 0)
    have main : (if nI one = nI i then f_X8_soundNeighbours_120 (MSt h b P L w c) (nI i) (nI one) (nI oth) else (f_X8_isSound (MSt h b P L w c) (nI one)).bind fun r22 => (if r22 = 0 then f_X8_soundNeighbours_120 (MSt h b P L w c) (nI i) (nI one) (nI oth) else f_X8_soundNeighbours_121 (MSt h b P L w c) (nI i) (nI one) (nI oth) (1 : Int32))) = some (nI ((if one ≠ i ∧ sB L w c one = true then 1 else 0) + (if oth ≠ i ∧ oth ≠ one ∧ sB L w c oth = true then 1 else 0))) := by
      by_cases e1 : one = i
      · rw [if_pos (by rw [e1]), q120, if_neg (fun q : one ≠ i ∧ sB L w c one = true => q.1 e1)]
      · rw [if_neg (fun q => e1 ((nI_eq (by omega) (by omega)).mp q)), m_sound ok (by omega) o1, Option.bind_some]
        cases e3 : sB L w c one with
        | false => rw [if_pos bIf, q120, if_neg (fun q : one ≠ i ∧ false = true => by cases q.2)]
        | true =>
          rw [if_neg (fun q => n1_0 (bIt.symm.trans q)), if_pos ⟨e1, rfl⟩]
          exact sn121 ok (by omega) (by omega) o1 o2 (a := 1)
    rw [main]
    congr 2
    unfold snN
    rw [eb, eh]
    have s100 : sB L w c 100 = false := sB_no (by omega)
    by_cases n2 : zF P (cF P i) < 2
    · have : one = i := by rw [← ho]; split <;> omega
      have : oth = i := by rw [← ht]; split <;> omega
      rw [if_pos n2, if_pos (show zF P (cF P i) < 3 by omega), s100, if_neg (fun q : one ≠ i ∧ sB L w c one = true => q.1 (by omega)), if_neg (fun q : oth ≠ i ∧ oth ≠ one ∧ sB L w c oth = true => q.1 (by omega))]
      rfl
    · by_cases n3 : zF P (cF P i) < 3
      · have : one = oth := by rw [← ho, ← ht]; split <;> split <;> omega
        have : one ≠ i := by rw [← ho]; split <;> omega
        rw [if_neg n2, if_pos n3, s100, if_neg (fun q : oth ≠ i ∧ oth ≠ one ∧ sB L w c oth = true => q.2.1 (by omega)), show oth = one by omega]
        cases e3 : sB L w c one with
        | false => rw [if_neg (fun q => by cases q.2)]; rfl
        | true => rw [if_pos ⟨by omega, rfl⟩]; rfl
      · have h1 : one ≠ i := by rw [← ho]; split <;> omega
        have h2 : oth ≠ i := by rw [← ht]; split <;> omega
        have h3 : oth ≠ one := by rw [← ho, ← ht]; split <;> split <;> omega
        rw [if_neg n2, if_neg n3]
        cases e3 : sB L w c one with
        | false =>
          cases e4 : sB L w c oth with
          | false => rw [if_neg (fun q => by cases q.2), if_neg (fun q => by cases q.2.2)]; rfl
          | true => rw [if_neg (fun q => by cases q.2), if_pos ⟨h2, h3, rfl⟩]; rfl
        | true =>
          cases e4 : sB L w c oth with
          | false => rw [if_pos ⟨h1, rfl⟩, if_neg (fun q => by cases q.2.2)]; rfl
          | true => rw [if_pos ⟨h1, rfl⟩, if_pos ⟨h2, h3, rfl⟩]; rfl
theorem cF_in (hW : WF P) {i k : Nat} (hi : i < aF P) (h1 : sF P (cF P i) ≤ k) (h2 : k < sF P (cF P i) + zF P (cF P i)) : cF P k = cF P i := cF_un (cF_lt hW) h1 h2
theorem cF_ou (hW : WF P) {k y : Nat} (hk : k < aF P) (hy : y < mF P) (h : k < sF P y ∨ sF P y + zF P y ≤ k) : cF P k ≠ y := fun q => by
  have a := cF_lo (P := P) (i := k)
  have b := cF_hi hW hk
  rw [q] at a b
  omega
theorem cl15 (ok : MOK h b) (hW : WF P) (hL : L ≤ aF P) {i : Nat} (hi : i < aF P) : ∀ (d f k : Nat) (x : Bool), k + d = sF P (cF P i) + zF P (cF P i) → sF P (cF P i) ≤ k → d < f → f_X8_isClosed_15 (MSt h b P L w c) f (nI i) (nI (cF P i)) (bI x) (nI k) = some (bI (x && decide (cnt (xB P L w c i) (sF P (cF P i) + zF P (cF P i)) = cnt (xB P L w c i) k))) := by
  have h60 := hW.a60
  have hc := cF_lt hW (i := i)
  have hm := mF8 hW
  have s := sF_all (P := P) hc
  intro d
  induction d with
  | zero =>
    intro f k x hk hs hf
    obtain ⟨f, rfl⟩ : ∃ g, f = g + 1 := ⟨f - 1, by omega⟩
    rw [f_X8_isClosed_15, m_start ok hW (by omega), Option.bind_some, m_size ok hW hc, Option.bind_some, nI_add, if_pos (nI_le (by omega) (by omega)), show k = sF P (cF P i) + zF P (cF P i) by omega, decide_eq_true rfl, Bool.and_true]
    cases x <;> rfl
  | succ d ih =>
    intro f k x hk hs hf
    obtain ⟨f, rfl⟩ : ∃ g, f = g + 1 := ⟨f - 1, by omega⟩
    have step : ∀ z : Bool, f_X8_isClosed_67 (MSt h b P L w c) (f_X8_isClosed_15 (MSt h b P L w c) f) (nI i) (nI (cF P i)) (nI k) (bI z) = some (bI (z && decide (cnt (xB P L w c i) (sF P (cF P i) + zF P (cF P i)) = cnt (xB P L w c i) (k + 1)))) := fun z => by
      unfold f_X8_isClosed_67
      rw [nI_1]
      exact ih f (k + 1) z (by omega) (by omega) (by omega)
    have s66 : f_X8_isClosed_66 (MSt h b P L w c) (f_X8_isClosed_15 (MSt h b P L w c) f) (nI i) (nI (cF P i)) (nI k) = some (bI false) := by
      have := step false
      rw [Bool.false_and] at this
      exact this
    have s62 := step true
    have hu := cnt_up (p := xB P L w c i) (show k + 1 ≤ sF P (cF P i) + zF P (cF P i) by omega)
    have hck : cF P k = cF P i := cF_in hW hi hs (by omega)
    have nx : ∀ z : Bool, xB P L w c i k = !z → (if bI z = 0 then f_X8_isClosed_66 (MSt h b P L w c) (f_X8_isClosed_15 (MSt h b P L w c) f) (nI i) (nI (cF P i)) (nI k) else f_X8_isClosed_62 (MSt h b P L w c) (f_X8_isClosed_15 (MSt h b P L w c) f) (nI i) (nI (cF P i)) (nI k)) = some (bI (true && decide (cnt (xB P L w c i) (sF P (cF P i) + zF P (cF P i)) = cnt (xB P L w c i) k))) := fun z hz => by
      rw [cnt, hz] at hu
      cases z with
      | false =>
        rw [if_pos bIf, s66, decide_eq_false (by simp at hu; omega)]
        rfl
      | true =>
        rw [if_neg (fun q => n1_0 (bIt.symm.trans q))]
        refine s62.trans ?_
        rw [show cnt (xB P L w c i) (k + 1) = cnt (xB P L w c i) k by rw [cnt, hz]; simp]
    rw [f_X8_isClosed_15, m_start ok hW (by omega), Option.bind_some, m_size ok hW hc, Option.bind_some, nI_add, if_neg (nI_ge (by omega) (by omega))]
    cases x with
    | false => rw [if_pos bIf, s66, Bool.false_and]
    | true =>
      rw [if_neg (fun q => n1_0 (bIt.symm.trans q))]
      by_cases e : k = i
      · rw [if_pos (by rw [e]), m_laid ok (by omega) (by omega), Option.bind_some]
        refine nx _ ?_
        unfold xB
        rw [decide_eq_true hck, Bool.true_and, if_pos e]
      · rw [if_neg (fun q => e ((nI_eq (by omega) (by omega)).mp q)), m_sound ok (by omega) (by omega), Option.bind_some]
        refine nx _ ?_
        unfold xB
        rw [decide_eq_true hck, Bool.true_and, if_neg e]
theorem m_cl (ok : MOK h b) (hW : WF P) (hL : L ≤ aF P) {i : Nat} (hi : i < aF P) : f_X8_isClosed (MSt h b P L w c) (nI i) = some (bI (clB P L w c i)) := by
  have h60 := hW.a60
  have hc := cF_lt hW (i := i)
  have hm := mF8 hW
  have s := sF_all (P := P) hc
  unfold f_X8_isClosed
  rw [m_crs ok hW hi, Option.bind_some, m_start ok hW (by omega), Option.bind_some]
  refine (cl15 ok hW hL hi (zF P (cF P i)) KF (sF P (cF P i)) true (by omega) (Nat.le_refl _) (by have := KF_ge; omega)).trans ?_
  have c0 : cnt (xB P L w c i) (sF P (cF P i)) = 0 := cnt_zero.mpr (fun k hk => by
    unfold xB
    rw [decide_eq_false (cF_ou hW (by omega) hc (Or.inl hk)), Bool.false_and])
  have c1 : cnt (xB P L w c i) (aF P) = cnt (xB P L w c i) (sF P (cF P i) + zF P (cF P i)) := cnt_flat s (fun k h1 h2 => by
    unfold xB
    rw [decide_eq_false (cF_ou hW h2 hc (Or.inr h1)), Bool.false_and])
  unfold clB
  rw [c0, c1, Bool.true_and]
theorem v_k (ok : MOK h b) (hW : WF P) (k : Nat) (hk : k < 7) {x : Int32} (hx : x = nI k) : f_X8_v (MSt h b P L w c) x = some (nI (gn P k)) := by
  rw [hx, v_P ok (by omega), hW.2.1 k hk]
theorem m_less {h : TT} (a q : Nat) (ha : a < 2 ^ 31) (hq : q < 2 ^ 31) : f_X8_lesser h (nI a) (nI q) = some (nI (min a q)) := by
  unfold f_X8_lesser
  by_cases e : q ≤ a
  · rw [if_pos (nI_le e ha), Nat.min_eq_right e]
  · rw [if_neg (nI_ge (by omega) hq), Nat.min_eq_left (by omega)]
theorem fro_b (hW : WF P) (hL : L ≤ 60) {i : Nat} : gn P 4 * (L - 1 - i) * gn P 2 ≤ 9 * 60 * 40 := by
  have := hW.2.2.2.2.1
  have := hW.2.2.2.2.2.2.1
  exact Nat.mul_le_mul (Nat.mul_le_mul (by omega) (by omega)) (by omega)
theorem m_hold (ok : MOK h b) (hW : WF P) (hL : L ≤ aF P) {i : Nat} (hi : i < L) : f_X8_holdOf (MSt h b P L w c) (nI i) = some (nI (hoN P L w c i)) := by
  have h60 := hW.a60
  have fb := fro_b hW (L := L) (i := i) (by omega)
  unfold f_X8_holdOf
  rw [v_k (x := 4) ok hW 4 (by omega) rfl, Option.bind_some, v_L ok, Option.bind_some]
  simp only [nm]
  rw [v_k (x := 0) ok hW 0 (by omega) rfl, Option.bind_some, v_k (x := 2) ok hW 2 (by omega) rfl, Option.bind_some, nI_p (by omega), pk_sub (by omega), pk_mul, pk_mul, show (20 : Int32) = nI 20 from rfl, pk_div (by omega) (by omega) (by omega), m_less _ _ (by have := hW.2.2.1; omega) (by omega), Option.bind_some, v_k (x := 1) ok hW 1 (by omega) rfl, Option.bind_some, m_sn ok hW hL (by omega), Option.bind_some, m_cl ok hW hL (by omega), Option.bind_some, nI_s2, nI_add, nI_add]
  have q64 : ∀ t : Nat, f_X8_holdOf_64 (MSt h b P L w c) (nI i) (nI t) (nI (gn P 1 + min (gn P 0) (gn P 4 * (L - 1 - i) * gn P 2 / 20) + 2 * snN P L w c i)) = some (nI (gn P 1 + min (gn P 0) (gn P 4 * (L - 1 - i) * gn P 2 / 20) + 2 * snN P L w c i + t + (if gn P 5 = 2 ∧ i + 1 ≠ L then 1 else 0))) := fun t => by
    unfold f_X8_holdOf_64
    rw [v_P (k := 5) ok (by omega) |> (fun q => show f_X8_v (MSt h b P L w c) 5 = some (P 5) from q), Option.bind_some, hW.2.1 5 (by omega), v_L ok, Option.bind_some, nI_p (by omega), nI_add]
    have g5 : gn P 5 < 2 ^ 31 := by
      unfold gn
      have := Int32.toInt_lt (P 5)
      unfold Int32.toNatClampNeg
      omega
    by_cases e : gn P 5 = 2
    · rw [if_pos (by rw [e]; rfl)]
      by_cases e2 : i + 1 = L
      · rw [if_pos (by rw [show L - 1 = i by omega]), if_neg (fun q => q.2 e2)]; exact congrArg some (nI_add _ 0)
      · rw [if_neg (fun q => by have := (nI_eq (by omega) (by omega)).mp q; omega), if_pos ⟨e, e2⟩]
        exact congrArg some (nI_1 _)
    · rw [if_neg (fun q : nI (gn P 5) = 2 => e ((nI_eq g5 (by decide)).mp (show nI (gn P 5) = nI 2 from q))), if_neg (fun q => e q.1)]; exact congrArg some (nI_add _ 0)
  unfold hoN
  cases clB P L w c i with
  | false => rw [if_pos bIf]; exact q64 0
  | true => rw [if_neg (fun q => n1_0 (bIt.symm.trans q))]; exact q64 3
theorem p1_c (hW : WF P) {k : Nat} (hk : k < aF P) (h0 : cF P k ≠ 0) : cF P (p1 P k) + 1 = cF P k ∧ p1 P k < 60 := by
  have r := p1_r hW hk h0
  have hc := cF_lt hW (i := k)
  have s := sF_all (P := P) hc
  have h60 := hW.a60
  have e : sF P (cF P k - 1) + zF P (cF P k - 1) = sF P (cF P k) := (st_pr (sz := zF P) (y := cF P k) (by omega)).symm
  have : cF P (p1 P k) = cF P k - 1 := cF_un (by omega) r.1 (by omega)
  omega
theorem p2_c (hW : WF P) {k : Nat} (hk : k < aF P) (h0 : cF P k ≠ 0) : cF P (p2 P k) + 1 = cF P k ∧ p2 P k < 60 := by
  have r := p2_r hW hk h0
  have hc := cF_lt hW (i := k)
  have s := sF_all (P := P) hc
  have h60 := hW.a60
  have e : sF P (cF P k - 1) + zF P (cF P k - 1) = sF P (cF P k) := (st_pr (sz := zF P) (y := cF P k) (by omega)).symm
  have : cF P (p2 P k) = cF P k - 1 := cF_un (by omega) r.1 (by omega)
  omega
theorem abB_c (hW : WF P) {i k : Nat} (hi : i < aF P) (hk : k < aF P) (h : cF P k ≠ cF P i + 1) : abB P L w i k = false := by
  have h60 := hW.a60
  unfold abB
  by_cases e : cF P k = 0
  · rw [p1_0 e, p2_0 e, decide_eq_false (show ¬ 100 = i by omega)]; simp
  · have a := p1_c hW hk e
    have b := p2_c hW hk e
    rw [decide_eq_false (fun q : p1 P k = i => by rw [q] at a; omega), decide_eq_false (fun q : p2 P k = i => by rw [q] at b; omega)]; simp
theorem ab27 (ok : MOK h b) (hW : WF P) (hL : L ≤ aF P) {i y : Nat} (hi : i < aF P) (hy : y < mF P) (hy0 : y ≠ 0) : ∀ (d f k a : Nat), k + d = sF P y + zF P y → sF P y ≤ k → d < f → f_X8_above_27 (MSt h b P L w c) f (nI i) (nI y) (nI a) (nI k) = some (nI (a + (cnt (abB P L w i) (sF P y + zF P y) - cnt (abB P L w i) k))) := by
  have h60 := hW.a60
  have hm := mF8 hW
  have s := sF_all (P := P) hy
  intro d
  induction d with
  | zero =>
    intro f k a hk hs hf
    obtain ⟨f, rfl⟩ : ∃ g, f = g + 1 := ⟨f - 1, by omega⟩
    rw [f_X8_above_27, m_start ok hW (by omega), Option.bind_some, m_size ok hW hy, Option.bind_some, nI_add, if_pos (nI_le (by omega) (by omega)), show k = sF P y + zF P y by omega, Nat.sub_self]
    rfl
  | succ d ih =>
    intro f k a hk hs hf
    obtain ⟨f, rfl⟩ : ∃ g, f = g + 1 := ⟨f - 1, by omega⟩
    have hck : cF P k = y := cF_un hy hs (by omega)
    have hu := cnt_up (p := abB P L w i) (show k + 1 ≤ sF P y + zF P y by omega)
    have s86 : abB P L w i k = false → f_X8_above_86 (MSt h b P L w c) (f_X8_above_27 (MSt h b P L w c) f) (nI i) (nI y) (nI k) (nI a) = some (nI (a + (cnt (abB P L w i) (sF P y + zF P y) - cnt (abB P L w i) k))) := fun hz => by
      show f_X8_above_27 (MSt h b P L w c) f (nI i) (nI y) (nI a + nI 0) (nI k + 1) = _
      rw [nI_1, nI_add, ih f (k + 1) (a + 0) (by omega) (by omega) (by omega), cnt, hz]
      simp
    have s82 : abB P L w i k = true → f_X8_above_82 (MSt h b P L w c) (f_X8_above_27 (MSt h b P L w c) f) (nI i) (nI y) (nI k) (nI a) = some (nI (a + (cnt (abB P L w i) (sF P y + zF P y) - cnt (abB P L w i) k))) := fun hz => by
      show f_X8_above_27 (MSt h b P L w c) f (nI i) (nI y) (nI a + nI 1) (nI k + 1) = _
      rw [nI_1, nI_add, ih f (k + 1) (a + 1) (by omega) (by omega) (by omega)]
      rw [cnt, hz, if_pos rfl] at hu ⊢
      congr 2
      omega
    have c1 := p1_c hW (k := k) (by omega) (by omega)
    have c2 := p2_c hW (k := k) (by omega) (by omega)
    have e1 : cv (p1 P k) = nI (p1 P k) := if_neg (by omega)
    rw [f_X8_above_27, m_start ok hW (by omega), Option.bind_some, m_size ok hW hy, Option.bind_some, nI_add, if_neg (nI_ge (by omega) (by omega)), m_laid ok (by omega) (by omega), Option.bind_some, m_slumped ok (by omega), Option.bind_some, m_rests ok hW (by omega), Option.bind_some, m_too ok hW (by omega) (by omega), Option.bind_some, e1]
    by_cases x1 : k < L
    · rw [decide_eq_true x1, if_neg (fun q => n1_0 (bIt.symm.trans q))]
      by_cases x2 : w k = -9
      · have f0 : fB w k = false := by unfold fB; rw [decide_eq_true x2]; rfl
        rw [f0, if_pos bIf]
        by_cases x3 : p1 P k = i
        · rw [if_pos (by rw [x3]), s82 (by unfold abB; rw [decide_eq_true x1, decide_eq_true x2, decide_eq_true x3]; rfl)]
        · rw [if_neg (fun q => x3 ((nI_eq (by omega) (by omega)).mp q))]
          by_cases x4 : p2 P k = i
          · rw [if_pos (by rw [x4]), s82 (by unfold abB; rw [decide_eq_true x1, decide_eq_true x2, decide_eq_true x4]; simp)]
          · rw [if_neg (fun q => x4 ((nI_eq (by omega) (by omega)).mp q)), s86 (by unfold abB; rw [decide_eq_false x3, decide_eq_false x4]; simp)]
      · have f0 : fB w k = true := by unfold fB; rw [decide_eq_false x2]; rfl
        rw [f0, if_neg (fun q => n1_0 (bIt.symm.trans q)), s86 (by unfold abB; rw [decide_eq_false x2]; simp)]
    · rw [decide_eq_false x1, if_pos bIf, s86 (by unfold abB; rw [decide_eq_false x1]; simp)]
theorem m_above (ok : MOK h b) (hW : WF P) (hL : L ≤ aF P) {i : Nat} (hi : i < aF P) : f_X8_above (MSt h b P L w c) (nI i) = some (nI (abN P L w i)) := by
  have h60 := hW.a60
  have hc := cF_lt hW (i := i)
  have hm := mF8 hW
  unfold f_X8_above
  rw [m_crs ok hW hi, Option.bind_some]
  simp only [nm]
  rw [show f_X8_v (MSt h b P L w c) 6 = some (P 6) from v_P (k := 6) ok (by omega), Option.bind_some, P6 hW, nI_1]
  unfold abN
  by_cases e : cF P i + 1 < mF P
  · have s := sF_all (P := P) e
    rw [if_neg (nI_ge e (by omega)), m_start ok hW (by omega), Option.bind_some]
    refine (ab27 ok hW hL hi e (by omega) (zF P (cF P i + 1)) KF (sF P (cF P i + 1)) 0 (by omega) (Nat.le_refl _) (by have := KF_ge; have := (hW.1.2.2.1 _ e); omega)).trans ?_
    have c0 : cnt (abB P L w i) (sF P (cF P i + 1)) = 0 := cnt_zero.mpr (fun k hk => abB_c hW hi (by omega) (cF_ou hW (by omega) e (Or.inl hk)))
    have c1 : cnt (abB P L w i) (aF P) = cnt (abB P L w i) (sF P (cF P i + 1) + zF P (cF P i + 1)) := cnt_flat s (fun k h1 h2 => abB_c hW hi h2 (cF_ou hW h2 e (Or.inr h1)))
    rw [c0, c1, Nat.zero_add, Nat.sub_zero]
  · rw [if_pos (nI_le (by omega) (by omega)), cnt_zero.mpr (fun k hk => abB_c hW hi hk (by have := cF_lt hW (i := k); omega))]
    rfl
end MODG
