def slO (k : Nat) (v lo hi : Int32) : Option (Nat × Int32) := if lo ≤ v ∧ v ≤ hi then some (k, v) else none
/-- SLIP s in the plan of P: which number is another, and which; none where it can't be -/
def slI (P : Nat → Int32) (s : Nat) : Option (Nat × Int32) :=
  if s = 80 then slO 4 (P 4 + -1) 1 9 else if s = 90 then slO 4 (P 4 + 1) 1 9
  else if s / 10 < mF P ∧ s % 10 ≤ 2 then slO (9 + 3 * (s / 10)) (P (9 + 3 * (s / 10)) + (if s % 10 = 2 then -1 else nI (s % 10) + 1)) 0 9 else none
def RSx (B : Nat → Nat → Int32) (P : Nat → Int32) : Prop := ∃ B0, RS B0 P ∧ ∀ a, a < 3 ∨ 7 ≤ a → B a = B0 a
section INV
variable {h h' g s : TT} {o k b q : Nat} {B : Nat → Nat → Int32} {P P' Q : Nat → Int32} {L L' : Nat} {w c w' c' : Nat → Int32}
theorem slI_W (hW : WF P) {t : Nat} {kv : Nat × Int32} (e : slI P t = some kv) : WF (upd P kv.1 kv.2) := by
  have nn : ∀ (v lo : Int32), (lo = 0 ∨ lo = 1) → lo ≤ v ∧ v ≤ 9 → ∃ n, n ≤ 9 ∧ v = nI n := fun v lo hl hv => by
    refine nI_of2 (M := 9) (n := 9) rfl (fun q => ?_) hv.2
    have a := i32_lt.mp q
    have b := i32_le.mp hv.1
    have z0 : (0 : Int32).toInt = 0 := rfl
    have z1 : (1 : Int32).toInt = 1 := rfl
    rcases hl with rfl | rfl <;> omega
  unfold slI slO at e
  by_cases e1 : t = 80
  · rw [if_pos e1] at e
    by_cases e2 : 1 ≤ P 4 + -1 ∧ P 4 + -1 ≤ 9
    · rw [if_pos e2] at e
      cases e
      obtain ⟨n, hn, z⟩ := nn _ 1 (Or.inr rfl) e2
      show WF (upd P 4 (P 4 + -1))
      rw [z]; exact W_min hW hn
    · rw [if_neg e2] at e; cases e
  · rw [if_neg e1] at e
    by_cases e3 : t = 90
    · rw [if_pos e3] at e
      by_cases e2 : 1 ≤ P 4 + 1 ∧ P 4 + 1 ≤ 9
      · rw [if_pos e2] at e
        cases e
        obtain ⟨n, hn, z⟩ := nn _ 1 (Or.inr rfl) e2
        show WF (upd P 4 (P 4 + 1))
        rw [z]; exact W_min hW hn
      · rw [if_neg e2] at e; cases e
    · rw [if_neg e3] at e
      by_cases e4 : t / 10 < mF P ∧ t % 10 ≤ 2
      · rw [if_pos e4] at e
        generalize hv : P (9 + 3 * (t / 10)) + (if t % 10 = 2 then -1 else nI (t % 10) + 1) = v at e
        by_cases e2 : 0 ≤ v ∧ v ≤ 9
        · rw [if_pos e2] at e
          cases e
          obtain ⟨n, hn, z⟩ := nn _ 0 (Or.inl rfl) e2
          show WF (upd P (9 + 3 * (t / 10)) v)
          rw [z]; exact W_lean hW e4.1 hn
        · rw [if_neg e2] at e; cases e
      · rw [if_neg e4] at e; cases e
theorem c_slip (H : HOk h 41 0 P L w c) (R : RSx B P) {t : Nat} (ht : t ≤ 99) : (∀ kv, slI P t = some kv → ∃ B', f_X3_slipFrom (setB h 110 B) (110 + 3) (41 + 3) (nI t) = some (1, setB h 110 B') ∧ RS B' (upd P kv.1 kv.2)) ∧ (slI P t = none → ∃ B', f_X3_slipFrom (setB h 110 B) (110 + 3) (41 + 3) (nI t) = some (0, setB h 110 B') ∧ RSx B' P) := by
  have hW := H.1
  have hm := mF8 hW
  obtain ⟨B0, R0, eB⟩ := R
  have z3 : h.1 (41 + 3) 0 = 1 := H.2.1.2.2.1
  have ta := c_take3 (h := h) (o := 110) (B := B) (o2 := 41 + 3) (by rw [z3]; decide) (by omega) (by omega) (by omega) (by omega)
  generalize hB1 : cpB (cpB (cpB (upB (upB (upB (upB B 3 0 (h.1 (41 + 3) 0)) 3 1 (h.1 (41 + 3) 1)) 3 2 (h.1 (41 + 3) 2)) 3 3 (h.1 (41 + 3) 3)) 4 (h.1 (41 + 3 + 1)) 8) 5 (h.1 (41 + 3 + 2)) 8) 6 (h.1 (41 + 3 + 3)) 8 = B1 at ta
  have br : ∀ a, a < 3 ∨ 7 ≤ a → B1 a = B0 a := fun a ha => by
    rw [← eB a ha, ← hB1]
    funext j
    simp only [cpB_1, upB_1, show ¬ a = 6 by omega, show ¬ a = 5 by omega, show ¬ a = 4 by omega, show ¬ a = 3 by omega, false_and, if_false]
  have b3 : ∀ j, j < 4 → B1 3 j = h.1 (41 + 3) j := fun j hj => by
    rw [← hB1]
    rcases (show j = 0 ∨ j = 1 ∨ j = 2 ∨ j = 3 by omega) with rfl | rfl | rfl | rfl <;> simp [cpB_1, upB_1]
  have b4 : ∀ y, y < 8 → B1 4 y = h.1 (41 + 4) y ∧ B1 5 y = h.1 (41 + 5) y ∧ B1 6 y = h.1 (41 + 6) y := fun y hy => by
    rw [← hB1]
    refine ⟨?_, ?_, ?_⟩ <;> simp [cpB_1, hy]
  have R1 : RS B1 P := by
    obtain ⟨a1, a2, a3, a4, a5, a6, a7, a8, a9, a10⟩ := R0
    obtain ⟨c1, c2, c3, c4, c5, c6, c7, c8, c9, c10⟩ := H.2.1
    refine ⟨by rw [br 0 (by omega)]; exact a1, by rw [br 1 (by omega)]; exact a2, (b3 0 (by omega)).trans c3, by rw [br 0 (by omega)]; exact a4, by rw [br 2 (by omega)]; exact a5, (b3 1 (by omega)).trans c6, (b3 2 (by omega)).trans c7, (b3 3 (by omega)).trans c8, fun y hy => ?_, ?_⟩
    · obtain ⟨d1, d2, d3⟩ := b4 y (by omega)
      obtain ⟨f1, f2, f3, -⟩ := c9 y hy
      rw [br 11 (by omega)]
      exact ⟨d1.trans f1, d2.trans f2, d3.trans f3, (a9 y hy).2.2.2⟩
    · rw [br 12 (by omega), br 13 (by omega), br 14 (by omega), br 15 (by omega), br 16 (by omega)]; exact a10
  have x3 : ∀ j v, RSx (upB B1 3 j v) P := fun j v => ⟨B1, R1, fun a ha => upB_r (by omega)⟩
  have x6 : ∀ j v, RSx (upB B1 6 j v) P := fun j v => ⟨B1, R1, fun a ha => upB_r (by omega)⟩
  have p4 : B1 3 3 = P 4 := R1.2.2.2.2.2.2.2.1
  have p1' : B1 3 1 = nI (mF P) := (R1.2.2.2.2.2.1).trans (P6 hW)
  have u33 : ∀ v, upB B1 3 3 v 3 3 = v := fun v => by rw [upB_1, if_pos ⟨rfl, rfl⟩]
  have u6 : ∀ v j, upB B1 6 j v 6 j = v := fun v j => by rw [upB_1, if_pos ⟨rfl, rfl⟩]
  have s33 : ∀ d : Int32, f_X3_slipFrom_33 (110 + 3) (41 + 3) d (P 4) (setB h 110 B1) = if 1 ≤ P 4 + d ∧ P 4 + d ≤ 9 then some (1, setB h 110 (upB B1 3 3 (P 4 + d))) else some (0, setB h 110 (upB B1 3 3 (P 4 + d))) := fun d => by
    unfold f_X3_slipFrom_33
    rw [sb_w (o := 110) (j := 3) (by omega), nm_eq, sb_3, u33]
    by_cases q1 : P 4 + d < 1
    · rw [if_pos q1, if_neg (fun z => by have a := i32_lt.mp q1; have b := i32_le.mp z.1; omega)]
    · rw [if_neg q1]
      by_cases q2 : 9 < P 4 + d
      · rw [if_pos q2, if_neg (fun z => by have a := i32_lt.mp q2; have b := i32_le.mp z.2; omega)]
      · rw [if_neg q2, if_pos ⟨by rw [i32_le]; rw [i32_lt] at q1; omega, by rw [i32_le]; rw [i32_lt] at q2; omega⟩]
  have mn : ∀ d : Int32, f_X3_slipFrom (setB h 110 B) (110 + 3) (41 + 3) (nI t) = f_X3_slipFrom_33 (110 + 3) (41 + 3) d (P 4) (setB h 110 B1) → slI P t = slO 4 (P 4 + d) 1 9 → (∀ kv, slI P t = some kv → ∃ B', f_X3_slipFrom (setB h 110 B) (110 + 3) (41 + 3) (nI t) = some (1, setB h 110 B') ∧ RS B' (upd P kv.1 kv.2)) ∧ (slI P t = none → ∃ B', f_X3_slipFrom (setB h 110 B) (110 + 3) (41 + 3) (nI t) = some (0, setB h 110 B') ∧ RSx B' P) := fun d f1 f2 => by
    rw [f1, f2, s33]
    unfold slO
    by_cases q : 1 ≤ P 4 + d ∧ P 4 + d ≤ 9
    · rw [if_pos q, if_pos q]
      exact ⟨fun kv z => by cases z; exact ⟨_, rfl, R1.min _⟩, fun z => by cases z⟩
    · rw [if_neg q, if_neg q]
      exact ⟨fun kv z => (by cases z), fun _ => ⟨_, rfl, x3 _ _⟩⟩
  by_cases e80 : t = 80
  · subst e80
    refine mn (-1) ?_ (by unfold slI; rw [if_pos rfl])
    unfold f_X3_slipFrom f_X3_slipFrom_17
    rw [ta, Option.bind_some, if_pos (by decide), if_pos (by decide), sb_3, p4]
  · by_cases e90 : t = 90
    · subst e90
      refine mn 1 ?_ (by unfold slI; rw [if_neg (by decide), if_pos rfl])
      unfold f_X3_slipFrom f_X3_slipFrom_17
      rw [ta, Option.bind_some, if_neg (by decide), if_pos (by decide), if_neg (by decide), sb_3, p4]
    · have base : f_X3_slipFrom (setB h 110 B) (110 + 3) (41 + 3) (nI t) = (f_X7_isBelow (setB h 110 B1) (nI (t / 10)) (nI (mF P))).bind fun r10 => (if r10 = 0 then some ((0 : Int32), setB h 110 B1) else (f_X7_isUpTo (setB h 110 B1) (nI (t % 10)) (2 : Int32)).bind fun r12 => (if r12 = 0 then some ((0 : Int32), setB h 110 B1) else if inb (nI (t / 10)) 8 = true then (if nI (t % 10) = (2 : Int32) then f_X3_slipFrom_114 (110 + 3) (41 + 3) (nI (t / 10)) (-1 : Int32) (B1 6 (nI (t / 10)).toNatClampNeg) (nI (t / 10)) (setB h 110 B1) else f_X3_slipFrom_114 (110 + 3) (41 + 3) (nI (t / 10)) (nI (t % 10) + (1 : Int32)) (B1 6 (nI (t / 10)).toNatClampNeg) (nI (t / 10)) (setB h 110 B1)) else none)) := by
        unfold f_X3_slipFrom
        rw [ta, Option.bind_some, if_neg (fun z : nI t = 80 => e80 ((nI_eq (by omega) (by decide)).mp (show nI t = nI 80 from z))), if_neg (fun z : nI t = 90 => e90 ((nI_eq (by omega) (by decide)).mp (show nI t = nI 90 from z))), show (10 : Int32) = nI 10 from rfl, pk_rem (by omega) (by omega) (by omega), pk_div (by omega) (by omega) (by omega), nm_eq, nm_eq, sb_3, p1', sb_6]
      have hs : slI P t = if t / 10 < mF P ∧ t % 10 ≤ 2 then slO (9 + 3 * (t / 10)) (P (9 + 3 * (t / 10)) + (if t % 10 = 2 then -1 else nI (t % 10) + 1)) 0 9 else none := by
        unfold slI
        rw [if_neg e80, if_neg e90]
      rw [base, hs, f_bel (by omega) (by omega), Option.bind_some]
      by_cases q1 : t / 10 < mF P
      · rw [if_neg (bI_t (decide_eq_true q1)), f_upto, Option.bind_some]
        by_cases q2 : t % 10 ≤ 2
        · have l6 : B1 6 (t / 10) = P (9 + 3 * (t / 10)) := (R1.2.2.2.2.2.2.2.2.1 _ q1).2.2.1
          rw [if_pos (show 0 ≤ nI (t % 10) ∧ nI (t % 10) ≤ 2 from ⟨nI_pos' (by omega), nI_le (b := 2) q2 (by omega)⟩), if_neg n1_0, if_pos (inb_nI (by omega) (by decide)), nI_clamp (by omega), l6, if_pos ⟨q1, q2⟩]
          have s114 : ∀ d : Int32, f_X3_slipFrom_114 (110 + 3) (41 + 3) (nI (t / 10)) d (P (9 + 3 * (t / 10))) (nI (t / 10)) (setB h 110 B1) = if 0 ≤ P (9 + 3 * (t / 10)) + d ∧ P (9 + 3 * (t / 10)) + d ≤ 9 then some (1, setB h 110 (upB B1 6 (t / 10) (P (9 + 3 * (t / 10)) + d))) else some (0, setB h 110 (upB B1 6 (t / 10) (P (9 + 3 * (t / 10)) + d))) := fun d => by
            unfold f_X3_slipFrom_114
            rw [if_pos (inb_nI (by omega) (by decide)), nI_clamp (by omega), show 110 + 3 + 3 = 110 + 6 from rfl, sb_w (by omega), nm_eq, if_pos (inb_nI (by omega) (by decide)), sb_r (by omega), u6, f_upto, Option.bind_some, if_pos isZ_if]
            by_cases z : 0 ≤ P (9 + 3 * (t / 10)) + d ∧ P (9 + 3 * (t / 10)) + d ≤ 9
            · rw [if_pos z, if_pos z]
            · rw [if_neg z, if_neg z]
          have fin : ∀ d : Int32, (∀ kv, slO (9 + 3 * (t / 10)) (P (9 + 3 * (t / 10)) + d) 0 9 = some kv → ∃ B', f_X3_slipFrom_114 (110 + 3) (41 + 3) (nI (t / 10)) d (P (9 + 3 * (t / 10))) (nI (t / 10)) (setB h 110 B1) = some (1, setB h 110 B') ∧ RS B' (upd P kv.1 kv.2)) ∧ (slO (9 + 3 * (t / 10)) (P (9 + 3 * (t / 10)) + d) 0 9 = none → ∃ B', f_X3_slipFrom_114 (110 + 3) (41 + 3) (nI (t / 10)) d (P (9 + 3 * (t / 10))) (nI (t / 10)) (setB h 110 B1) = some (0, setB h 110 B') ∧ RSx B' P) := fun d => by
            rw [s114]
            unfold slO
            by_cases z : 0 ≤ P (9 + 3 * (t / 10)) + d ∧ P (9 + 3 * (t / 10)) + d ≤ 9
            · rw [if_pos z, if_pos z]
              exact ⟨fun kv z => by cases z; exact ⟨_, rfl, R1.lean _ _⟩, fun z => by cases z⟩
            · rw [if_neg z, if_neg z]
              exact ⟨fun kv z => (by cases z), fun _ => ⟨_, rfl, x6 _ _⟩⟩
          by_cases q3 : t % 10 = 2
          · rw [if_pos (show nI (t % 10) = 2 by rw [q3]; rfl), if_pos q3]
            exact fin (-1)
          · rw [if_neg (fun z : nI (t % 10) = 2 => q3 ((nI_eq (by omega) (by decide)).mp (show nI (t % 10) = nI 2 from z))), if_neg q3]
            exact fin _
        · rw [if_neg (fun z : 0 ≤ nI (t % 10) ∧ nI (t % 10) ≤ 2 => q2 ((nI_leI (by omega) (by decide)).mp (show nI (t % 10) ≤ nI 2 from z.2))), if_pos rfl, if_neg (fun z => q2 z.2)]
          exact ⟨fun kv z => (by cases z), fun _ => ⟨_, rfl, ⟨B1, R1, fun _ _ => rfl⟩⟩⟩
      · rw [if_pos (bI_f (decide_eq_false q1)), if_neg (fun z => q1 z.1)]
        exact ⟨fun kv z => (by cases z), fun _ => ⟨_, rfl, ⟨B1, R1, fun _ _ => rfl⟩⟩⟩
theorem m_slip (hs : StG g s) (e : ∀ j, j < 152 → g.1 161 j = mkG P L w c j) (hW : WF P) {t : Nat} (ht : t ≤ 99) : (∀ kv, slI P t = some kv → f_X8_slips s (nI t) = some (1, MSt (lk4 g) 608 (upd P kv.1 kv.2) L w c)) ∧ (slI P t = none → f_X8_slips s (nI t) = some (0, MSt (lk4 g) 608 P L w c)) := by
  have hm := mF8 hW
  have v4 : f_X8_v (MSt (lk4 g) 608 P L w c) 4 = some (P 4) := v_P (k := 4) lk4_ok (by omega)
  have pu : ∀ v : Int32, f_X8_put_ (MSt (lk4 g) 608 P L w c) 4 v = some (MSt (lk4 g) 608 (upd P 4 v) L w c) := fun v => put_P (k := 4) lk4_ok (by omega)
  have s32 : ∀ d : Int32, f_X8_slips_32 d (P 4) (MSt (lk4 g) 608 P L w c) = if 1 ≤ P 4 + d ∧ P 4 + d ≤ 9 then some (1, MSt (lk4 g) 608 (upd P 4 (P 4 + d)) L w c) else some (0, MSt (lk4 g) 608 P L w c) := fun d => by
    unfold f_X8_slips_32 f_X8_slips_57
    rw [nm_eq, f_in, Option.bind_some]
    by_cases q : 1 ≤ P 4 + d ∧ P 4 + d ≤ 9
    · rw [if_pos q, if_neg n1_0, pu, Option.bind_some, if_pos q]; rfl
    · rw [if_neg q, if_pos rfl, v4, Option.bind_some, pu, Option.bind_some, upd_id rfl, if_neg q]; rfl
  have mn : ∀ d : Int32, f_X8_slips s (nI t) = f_X8_slips_32 d (P 4) (MSt (lk4 g) 608 P L w c) → slI P t = slO 4 (P 4 + d) 1 9 → (∀ kv, slI P t = some kv → f_X8_slips s (nI t) = some (1, MSt (lk4 g) 608 (upd P kv.1 kv.2) L w c)) ∧ (slI P t = none → f_X8_slips s (nI t) = some (0, MSt (lk4 g) 608 P L w c)) := fun d f1 f2 => by
    rw [f1, f2, s32]
    unfold slO
    by_cases q : 1 ≤ P 4 + d ∧ P 4 + d ≤ 9
    · rw [if_pos q, if_pos q]
      exact ⟨fun kv z => by cases z; rfl, fun z => by cases z⟩
    · rw [if_neg q, if_neg q]
      exact ⟨fun kv z => (by cases z), fun _ => rfl⟩
  by_cases e80 : t = 80
  · subst e80
    refine mn (-1) ?_ (by unfold slI; rw [if_pos rfl])
    unfold f_X8_slips f_X8_slips_16
    rw [hs.own e, Option.bind_some, if_pos (by decide), v4, Option.bind_some, if_pos (by decide)]
  · by_cases e90 : t = 90
    · subst e90
      refine mn 1 ?_ (by unfold slI; rw [if_neg (by decide), if_pos rfl])
      unfold f_X8_slips f_X8_slips_16
      rw [hs.own e, Option.bind_some, if_neg (by decide), if_pos (by decide), v4, Option.bind_some, if_neg (by decide)]
    · have hsl : slI P t = if t / 10 < mF P ∧ t % 10 ≤ 2 then slO (9 + 3 * (t / 10)) (P (9 + 3 * (t / 10)) + (if t % 10 = 2 then -1 else nI (t % 10) + 1)) 0 9 else none := by
        unfold slI
        rw [if_neg e80, if_neg e90]
      rw [hsl]
      unfold f_X8_slips
      rw [hs.own e, Option.bind_some, if_neg (fun z : nI t = 80 => e80 ((nI_eq (by omega) (by decide)).mp (show nI t = nI 80 from z))), if_neg (fun z : nI t = 90 => e90 ((nI_eq (by omega) (by decide)).mp (show nI t = nI 90 from z))), show (10 : Int32) = nI 10 from rfl, pk_rem (by omega) (by omega) (by omega), pk_div (by omega) (by omega) (by omega), nm_eq, nm_eq, show f_X8_v (MSt (lk4 g) 608 P L w c) 6 = some (P 6) from v_P (k := 6) lk4_ok (by omega), Option.bind_some, P6 hW]
      by_cases q1 : t / 10 < mF P
      · have P9 := (hW.2.2.2.2.2.2.2 _ q1).2.1
        rw [if_neg (nI_ge q1 (by omega))]
        by_cases q2 : t % 10 ≤ 2
        · rw [if_pos (show nI (t % 10) ≤ 2 from nI_le (b := 2) q2 (by omega)), m_lean lk4_ok hW q1, Option.bind_some, ← P9, if_pos ⟨q1, q2⟩]
          have s106 : ∀ d : Int32, f_X8_slips_106 (nI (t / 10)) d (P (9 + 3 * (t / 10))) (MSt (lk4 g) 608 P L w c) = if 0 ≤ P (9 + 3 * (t / 10)) + d ∧ P (9 + 3 * (t / 10)) + d ≤ 9 then some (1, MSt (lk4 g) 608 (upd P (9 + 3 * (t / 10)) (P (9 + 3 * (t / 10)) + d)) L w c) else some (0, MSt (lk4 g) 608 P L w c) := fun d => by
            unfold f_X8_slips_106 f_X8_slips_143
            rw [nm_eq, f_in, Option.bind_some, k9]
            by_cases z : 0 ≤ P (9 + 3 * (t / 10)) + d ∧ P (9 + 3 * (t / 10)) + d ≤ 9
            · rw [if_pos z, if_neg n1_0, put_P lk4_ok (by omega), Option.bind_some, if_pos z]; rfl
            · rw [if_neg z, if_pos rfl, m_lean lk4_ok hW q1, Option.bind_some, ← P9, put_P lk4_ok (by omega), Option.bind_some, upd_id rfl, if_neg z]; rfl
          have fin : ∀ d : Int32, (∀ kv, slO (9 + 3 * (t / 10)) (P (9 + 3 * (t / 10)) + d) 0 9 = some kv → f_X8_slips_106 (nI (t / 10)) d (P (9 + 3 * (t / 10))) (MSt (lk4 g) 608 P L w c) = some (1, MSt (lk4 g) 608 (upd P kv.1 kv.2) L w c)) ∧ (slO (9 + 3 * (t / 10)) (P (9 + 3 * (t / 10)) + d) 0 9 = none → f_X8_slips_106 (nI (t / 10)) d (P (9 + 3 * (t / 10))) (MSt (lk4 g) 608 P L w c) = some (0, MSt (lk4 g) 608 P L w c)) := fun d => by
            rw [s106]
            unfold slO
            by_cases z : 0 ≤ P (9 + 3 * (t / 10)) + d ∧ P (9 + 3 * (t / 10)) + d ≤ 9
            · rw [if_pos z, if_pos z]
              exact ⟨fun kv z => by cases z; rfl, fun z => by cases z⟩
            · rw [if_neg z, if_neg z]
              exact ⟨fun kv z => (by cases z), fun _ => rfl⟩
          by_cases q3 : t % 10 = 2
          · rw [if_pos (show nI (t % 10) = 2 by rw [q3]; rfl), if_pos q3]
            exact fin (-1)
          · rw [if_neg (fun z : nI (t % 10) = 2 => q3 ((nI_eq (by omega) (by decide)).mp (show nI (t % 10) = nI 2 from z))), if_neg q3]
            exact fin _
        · rw [if_neg (fun z : nI (t % 10) ≤ 2 => q2 ((nI_leI (by omega) (by decide)).mp (show nI (t % 10) ≤ nI 2 from z))), if_neg (fun z => q2 z.2)]
          exact ⟨fun kv z => (by cases z), fun _ => rfl⟩
      · rw [if_pos (nI_le (by omega) (by omega)), if_neg (fun z => q1 z.1)]
        exact ⟨fun kv z => (by cases z), fun _ => rfl⟩
end INV
