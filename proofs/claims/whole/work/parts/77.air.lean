def CI (h : TT) (f : Nat → Int32) (br : Int32) : TT := wr (wrow h 136 (fun j => if j < 6 then f j else h.1 136 j)) 135 1 br
def MI (h : TT) (f : Nat → Int32) (br : Int32) : TT := wr (wrow h 164 (fun j => if j < 6 then f j else h.1 164 j)) 147 26 br
def PC (h : TT) (out lamp people hole low : Int32) : Prop := h.1 135 2 = out ∧ h.1 135 3 = lamp ∧ h.1 135 4 = people ∧ h.1 135 5 = hole ∧ h.1 135 6 = low
section INV
variable {h h' g : TT} {f : Nat → Int32} {br out lamp people hole low : Int32}
theorem ci_6 {k : Nat} (hk : k < 6) : (CI h f br).1 136 k = f k := by
  unfold CI
  rw [wr_row (by omega), wrow_1, if_pos rfl, if_pos hk]
theorem ci_1 : (CI h f br).1 135 1 = br := by
  unfold CI
  rw [wr_1, if_pos ⟨rfl, rfl⟩]
theorem ci_p {j : Nat} (hj : j ≠ 1) : (CI h f br).1 135 j = h.1 135 j := by
  unfold CI
  rw [wr_1, if_neg (fun z => hj z.2), wrow_row (by omega)]
theorem ci_w {k : Nat} {v : Int32} (hk : k < 6) : wr (CI h f br) 136 k v = CI h (upd f k v) br := by
  unfold CI
  refine Prod.ext (funext fun a => funext fun j => ?_) rfl
  rw [wr_1, wr_1, wr_1, wrow_1, wrow_1]
  by_cases e : a = 136 ∧ j = k
  · rw [if_pos e, if_neg (by omega), if_pos e.1, if_pos (by omega), upd_cases, if_pos e.2]
  · rw [if_neg e]
    by_cases e2 : a = 135 ∧ j = 1
    · rw [if_pos e2, if_pos e2]
    · rw [if_neg e2, if_neg e2]
      by_cases e3 : a = 136
      · rw [if_pos e3, if_pos e3, upd_cases]
        by_cases e4 : j < 6
        · rw [if_pos e4, if_pos e4, if_neg (fun z => e ⟨e3, z⟩)]
        · rw [if_neg e4, if_neg e4]
      · rw [if_neg e3, if_neg e3]
theorem ci_b {v : Int32} : wr (CI h f br) 135 1 v = CI h f v := by
  unfold CI
  exact wr_ww
theorem mi_6 {k : Nat} (hk : k < 6) : (MI h f br).1 164 k = f k := by
  unfold MI
  rw [wr_row (by omega), wrow_1, if_pos rfl, if_pos hk]
theorem mi_1 : (MI h f br).1 147 26 = br := by
  unfold MI
  rw [wr_1, if_pos ⟨rfl, rfl⟩]
theorem mi_r {i : Nat} (h1 : i ≠ 147) (h2 : i ≠ 164) : (MI h f br).1 i = h.1 i := by
  unfold MI
  rw [wr_row h1, wrow_row h2]
theorem mi_w {k : Nat} {v : Int32} (hk : k < 6) : wr (MI h f br) 164 k v = MI h (upd f k v) br := by
  unfold MI
  refine Prod.ext (funext fun a => funext fun j => ?_) rfl
  rw [wr_1, wr_1, wr_1, wrow_1, wrow_1]
  by_cases e : a = 164 ∧ j = k
  · rw [if_pos e, if_neg (by omega), if_pos e.1, if_pos (by omega), upd_cases, if_pos e.2]
  · rw [if_neg e]
    by_cases e2 : a = 147 ∧ j = 26
    · rw [if_pos e2, if_pos e2]
    · rw [if_neg e2, if_neg e2]
      by_cases e3 : a = 164
      · rw [if_pos e3, if_pos e3, upd_cases]
        by_cases e4 : j < 6
        · rw [if_pos e4, if_pos e4, if_neg (fun z => e ⟨e3, z⟩)]
        · rw [if_neg e4, if_neg e4]
      · rw [if_neg e3, if_neg e3]
theorem mi_b {v : Int32} : wr (MI h f br) 147 26 v = MI h f v := by
  unfold MI
  exact wr_ww
theorem tn5 : (5 : Int32).toNatClampNeg = 5 := nI_clamp (n := 5) (by decide)
theorem ib56 : inb 5 6 = true := by decide
theorem ib06 : inb 0 6 = true := by decide
theorem ib16 : inb 1 6 = true := by decide
theorem ls_im (h : TT) (y : Int32) : f_X8_lesser h 100 y = some (imin 100 y) := by
  unfold f_X8_lesser imin
  by_cases e : y < 100
  · rw [if_pos e, if_pos (by rw [i32_le]; rw [i32_lt] at e; omega)]
  · rw [if_neg e]
    by_cases e2 : y ≤ 100
    · rw [if_pos e2]
      congr 1
      rw [i32_eq]
      have a := i32_le.mp e2
      rw [i32_lt] at e
      omega
    · rw [if_neg e2]
theorem brEq (a p l q x : Int32) : a - 2 * p - l + 3 * q + x = a + (3 * q - 2 * p - l + x) := by grind
theorem hr65 : ∀ (d n : Nat) (k : Nat) (f : Nat → Int32), k + d = 6 → d < n → ∃ f' b', ∀ h h' : TT, PC h out lamp people hole low → f_X2_hour_65 n (nI k) (CI h f br) = some (CI h f' b') ∧ f_X8_hour_130 n lamp people hole low out (nI k) (MI h' f br) = some (MI h' f' b') := by
  intro d
  induction d with
  | zero =>
    intro n k f hk hn
    obtain ⟨n, rfl⟩ : ∃ g, n = g + 1 := ⟨n - 1, by omega⟩
    obtain rfl : k = 6 := by omega
    have fin : ∀ f2 : Nat → Int32, ∃ b', ∀ h h' : TT, PC h out lamp people hole low → f_X2_hour_167 (CI h f2 br) = some (CI h f2 b') ∧ f_X8_hour_223 lamp people hole low (MI h' f2 br) = some (MI h' f2 b') := fun f2 => by
      by_cases e : low = 0
      · refine ⟨imax 0 (imin 100 (br - 2 * people - lamp + 3 * hole + 2)), fun h h' hp => ?_⟩
        obtain ⟨-, p3, p4, p5, p6⟩ := hp
        unfold f_X2_hour_167 f_X8_hour_223 f_X2_hour_202 f_X8_hour_248
        rw [ci_1, ci_p (j := 6) (by omega), ci_p (j := 4) (by omega), ci_p (j := 3) (by omega), ci_p (j := 5) (by omega), mi_1, p3, p4, p5, p6, if_pos e, if_pos e]
        refine ⟨?_, ?_⟩
        · rw [nm_eq, ci_b, nm_eq]
        · rw [mi_b, nm_eq, mi_1, ls_im, Option.bind_some, grt, Option.bind_some, mi_b, nm_eq, brEq]
      · refine ⟨imax 0 (imin 100 (br - 2 * people - lamp + 3 * hole + 0)), fun h h' hp => ?_⟩
        obtain ⟨-, p3, p4, p5, p6⟩ := hp
        unfold f_X2_hour_167 f_X8_hour_223 f_X2_hour_202 f_X8_hour_248
        rw [ci_1, ci_p (j := 6) (by omega), ci_p (j := 4) (by omega), ci_p (j := 3) (by omega), ci_p (j := 5) (by omega), mi_1, p3, p4, p5, p6, if_neg e, if_neg e]
        refine ⟨?_, ?_⟩
        · rw [nm_eq, ci_b, nm_eq]
        · rw [mi_b, nm_eq, mi_1, ls_im, Option.bind_some, grt, Option.bind_some, mi_b, nm_eq, brEq]
    by_cases e : low = 0
    · obtain ⟨b', q⟩ := fin (upd (upd (upd f 5 (f 5 - (f 5 - out) * hole / 20)) 0 out) 1 ((upd (upd f 5 (f 5 - (f 5 - out) * hole / 20)) 0 out) 1 - ((upd (upd f 5 (f 5 - (f 5 - out) * hole / 20)) 0 out) 1 - out) / 2))
      refine ⟨(upd (upd (upd f 5 (f 5 - (f 5 - out) * hole / 20)) 0 out) 1 ((upd (upd f 5 (f 5 - (f 5 - out) * hole / 20)) 0 out) 1 - ((upd (upd f 5 (f 5 - (f 5 - out) * hole / 20)) 0 out) 1 - out) / 2)), b', fun h h' hp => ?_⟩
      obtain ⟨q1, q2⟩ := q h h' hp
      refine ⟨?_, ?_⟩
      · rw [f_X2_hour_65, if_pos (by decide), if_pos ib56, if_pos ib56, if_pos ib56, tn5, ci_6 (by omega), ci_p (by omega), ci_p (by omega), hp.1, hp.2.2.2.1, ci_w (by omega), nm_eq, ci_p (by omega), hp.2.2.2.2, if_pos e, if_pos ib06, tn0, ci_p (by omega), hp.1, ci_w (by omega), nm_eq, if_pos ib16, if_pos ib16, if_pos ib16, tn1, ci_6 (by omega), ci_p (by omega), hp.1, ci_w (by omega), nm_eq]
        exact q1
      · rw [f_X8_hour_130, if_pos (by decide), if_pos ib56, if_pos ib56, if_pos ib56, tn5, mi_6 (by omega), mi_w (by omega), nm_eq, if_pos e, if_pos ib06, tn0, mi_w (by omega), nm_eq, if_pos ib16, if_pos ib16, if_pos ib16, tn1, mi_6 (by omega), mi_w (by omega), nm_eq]
        exact q2
    · obtain ⟨b', q⟩ := fin (upd f 5 (f 5 - (f 5 - out) * hole / 20))
      refine ⟨(upd f 5 (f 5 - (f 5 - out) * hole / 20)), b', fun h h' hp => ?_⟩
      obtain ⟨q1, q2⟩ := q h h' hp
      refine ⟨?_, ?_⟩
      · rw [f_X2_hour_65, if_pos (by decide), if_pos ib56, if_pos ib56, if_pos ib56, tn5, ci_6 (by omega), ci_p (by omega), ci_p (by omega), hp.1, hp.2.2.2.1, ci_w (by omega), nm_eq, ci_p (by omega), hp.2.2.2.2, if_neg e]
        exact q1
      · rw [f_X8_hour_130, if_pos (by decide), if_pos ib56, if_pos ib56, if_pos ib56, tn5, mi_6 (by omega), mi_w (by omega), nm_eq, if_neg e]
        exact q2
  | succ d ih =>
    intro n k f hk hn
    obtain ⟨n, rfl⟩ : ∃ g, n = g + 1 := ⟨n - 1, by omega⟩
    obtain ⟨f', b', q⟩ := ih n (k + 1) (upd f k (f k - (f k - out) / 10)) (by omega) (by omega)
    refine ⟨f', b', fun h h' hp => ?_⟩
    obtain ⟨q1, q2⟩ := q h h' hp
    have i6 : inb (nI k) 6 = true := inb_nI (by omega) (by decide)
    have n6 : ¬ (6 : Int32) ≤ nI k := nI_ge (b := 6) (by omega) (by omega)
    refine ⟨?_, ?_⟩
    · rw [f_X2_hour_65, if_neg n6, if_pos i6, if_pos i6, if_pos i6, nI_clamp (by omega), ci_6 (by omega), ci_p (by omega), hp.1, ci_w (by omega), nm_eq, nI_1]
      exact q1
    · rw [f_X8_hour_130, if_neg n6, if_pos i6, if_pos i6, if_pos i6, nI_clamp (by omega), mi_6 (by omega), mi_w (by omega), nm_eq, nI_1]
      exact q2
theorem hr47 : ∀ (d n : Nat) (k : Nat) (f : Nat → Int32), k + d = 5 → d < n → ∃ f' b', ∀ h h' : TT, PC h out lamp people hole low → f_X2_hour_47 n (nI k) (CI h f br) = some (CI h f' b') ∧ f_X8_hour_60 n lamp people hole low out (nI k) (MI h' f br) = some (MI h' f' b') := by
  intro d
  induction d with
  | zero =>
    intro n k f hk hn
    obtain ⟨n, rfl⟩ : ∃ g, n = g + 1 := ⟨n - 1, by omega⟩
    obtain rfl : k = 5 := by omega
    obtain ⟨f', b', q⟩ := hr65 (out := out) (lamp := lamp) (people := people) (hole := hole) (low := low) (br := br) 6 KF 0 f (by omega) (by decide)
    refine ⟨f', b', fun h h' hp => ?_⟩
    obtain ⟨q1, q2⟩ := q h h' hp
    refine ⟨?_, ?_⟩
    · rw [f_X2_hour_47, if_pos (by decide), show (0 : Int32) = nI 0 from rfl]
      exact q1
    · rw [f_X8_hour_60, if_pos (by decide), show (0 : Int32) = nI 0 from rfl]
      exact q2
  | succ d ih =>
    intro n k f hk hn
    obtain ⟨n, rfl⟩ : ∃ g, n = g + 1 := ⟨n - 1, by omega⟩
    have i6 : inb (nI k) 6 = true := inb_nI (by omega) (by decide)
    have i7 : inb (nI (k + 1)) 6 = true := inb_nI (by omega) (by decide)
    have n5 : ¬ (5 : Int32) ≤ nI k := nI_ge (b := 5) (by omega) (by omega)
    have b5 : (0 : Int32) ≤ nI k ∧ nI k < 5 := ⟨nI_pos' (by omega), nI_lt (b := 5) (by omega) (by omega)⟩
    by_cases e : f (k + 1) < f k
    · obtain ⟨f', b', q⟩ := ih n (k + 1) (upd (upd f k (f (k + 1))) (k + 1) (f k)) (by omega) (by omega)
      refine ⟨f', b', fun h h' hp => ?_⟩
      obtain ⟨q1, q2⟩ := q h h' hp
      refine ⟨?_, ?_⟩
      · rw [f_X2_hour_47, if_neg n5]
        unfold f_X2_riseFrom
        rw [f_below, Option.bind_some, if_pos b5, if_neg n1_0, if_pos i6, nI_1, if_pos i7, nI_clamp (show k < 2 ^ 31 by omega), nI_clamp (show k + 1 < 2 ^ 31 by omega), ci_6 (show k + 1 < 6 by omega), ci_6 (show k < 6 by omega), if_pos e, if_pos i6, nm_eq, if_pos i7, if_pos i6, ci_w (by omega), nm_eq, if_pos i7, ci_w (by omega), nm_eq, Option.bind_some]
        exact q1
      · rw [f_X8_hour_60, if_neg n5, if_pos i6, nI_1, if_pos i7, nI_clamp (show k < 2 ^ 31 by omega), nI_clamp (show k + 1 < 2 ^ 31 by omega), mi_6 (show k < 6 by omega), mi_6 (show k + 1 < 6 by omega), if_neg (fun z => by have a := i32_lt.mp e; have b := i32_le.mp z; omega), if_pos i6, nm_eq, if_pos i7, if_pos i6, mi_w (by omega), nm_eq, if_pos i7, mi_w (by omega), nm_eq]
        unfold f_X8_hour_121
        rw [nI_1]
        exact q2
    · obtain ⟨f', b', q⟩ := ih n (k + 1) f (by omega) (by omega)
      refine ⟨f', b', fun h h' hp => ?_⟩
      obtain ⟨q1, q2⟩ := q h h' hp
      refine ⟨?_, ?_⟩
      · rw [f_X2_hour_47, if_neg n5]
        unfold f_X2_riseFrom
        rw [f_below, Option.bind_some, if_pos b5, if_neg n1_0, if_pos i6, nI_1, if_pos i7, nI_clamp (show k < 2 ^ 31 by omega), nI_clamp (show k + 1 < 2 ^ 31 by omega), ci_6 (show k + 1 < 6 by omega), ci_6 (show k < 6 by omega), if_neg e, Option.bind_some]
        exact q1
      · rw [f_X8_hour_60, if_neg n5, if_pos i6, nI_1, if_pos i7, nI_clamp (show k < 2 ^ 31 by omega), nI_clamp (show k + 1 < 2 ^ 31 by omega), mi_6 (show k < 6 by omega), mi_6 (show k + 1 < 6 by omega), if_pos (by rw [i32_le]; rw [i32_lt] at e; omega)]
        unfold f_X8_hour_121
        rw [nI_1]
        exact q2
theorem hr18 : ∀ (d n : Nat) (k : Nat) (f : Nat → Int32), k + d = 4 → d < n → ∃ f' b', ∀ h h' : TT, PC h out lamp people hole low → f_X2_hour_18 n (nI k) (CI h f br) = some (CI h f' b') ∧ f_X8_hour_31 n lamp people hole low out (nI k) (MI h' f br) = some (MI h' f' b') := by
  intro d
  induction d with
  | zero =>
    intro n k f hk hn
    obtain ⟨n, rfl⟩ : ∃ g, n = g + 1 := ⟨n - 1, by omega⟩
    obtain rfl : k = 4 := by omega
    obtain ⟨f', b', q⟩ := hr47 (out := out) (lamp := lamp) (people := people) (hole := hole) (low := low) (br := br) 5 KF 0 f (by omega) (by decide)
    refine ⟨f', b', fun h h' hp => ?_⟩
    obtain ⟨q1, q2⟩ := q h h' hp
    refine ⟨?_, ?_⟩
    · rw [f_X2_hour_18, if_pos (by decide), show (0 : Int32) = nI 0 from rfl]
      exact q1
    · rw [f_X8_hour_31, if_pos (by decide), show (0 : Int32) = nI 0 from rfl]
      exact q2
  | succ d ih =>
    intro n k f hk hn
    obtain ⟨n, rfl⟩ : ∃ g, n = g + 1 := ⟨n - 1, by omega⟩
    have i6 : inb (nI k) 6 = true := inb_nI (by omega) (by decide)
    have n3 : ¬ (3 : Int32) < nI k := nI_nlt (a := 3) (by omega) (by omega)
    obtain ⟨f', b', q⟩ := ih n (k + 1) (upd f k (f k + 10 * people)) (by omega) (by omega)
    refine ⟨f', b', fun h h' hp => ?_⟩
    obtain ⟨q1, q2⟩ := q h h' hp
    refine ⟨?_, ?_⟩
    · rw [f_X2_hour_18, if_neg n3, if_pos i6, if_pos i6, nI_clamp (by omega), ci_6 (by omega), ci_p (by omega), hp.2.2.1, ci_w (by omega), nm_eq, nI_1]
      exact q1
    · rw [f_X8_hour_31, if_neg n3, if_pos i6, if_pos i6, nI_clamp (by omega), mi_6 (by omega), mi_w (by omega), nm_eq, nI_1]
      exact q2
/-- one hour, in both -/
theorem hour1 (f : Nat → Int32) (br : Int32) : ∃ f' b', ∀ h h' : TT, PC h out lamp people hole low → f_X2_hour (CI h f br) = some (CI h f' b') ∧ ∀ sn : Nat, sn < 4 → -10 * h'.1 155 (4 * sn + 2) = out → f_X8_hour (MI h' f br) (nI sn) lamp people hole low = some (MI h' f' b') := by
  obtain ⟨f', b', q⟩ := hr18 (out := out) (lamp := lamp) (people := people) (hole := hole) (low := low) (br := br) 3 KF 1 (upd f 5 (f 5 + 20 * lamp)) (by omega) (by decide)
  refine ⟨f', b', fun h h' hp => ?_⟩
  obtain ⟨q1, q2⟩ := q h h' hp
  refine ⟨?_, fun sn hs ho => ?_⟩
  · unfold f_X2_hour
    rw [if_pos ib56, if_pos ib56, tn5, ci_6 (by omega), ci_p (by omega), hp.2.1, ci_w (by omega), nm_eq, show (1 : Int32) = nI 1 from rfl]
    exact q1
  · unfold f_X8_hour
    rw [show (4 : Int32) * nI sn + 2 = nI (4 * sn + 2) from k4s sn 2, if_pos (inb_nI (by omega) (by decide)), nI_clamp (by omega), mi_r (by omega) (by omega), ho, nm_eq, if_pos ib56, if_pos ib56, tn5, mi_6 (by omega), mi_w (by omega), nm_eq, show (1 : Int32) = nI 1 from rfl]
    exact q2
end INV
