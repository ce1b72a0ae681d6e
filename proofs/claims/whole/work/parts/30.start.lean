def h0 : TT := (fun i => if i = 8 then (fun j => if j < 6 then -1 else 0) else if i = 14 then (fun j => if j < 4 then -1 else 0) else if i = 41 ∨ i = 59 ∨ i = 76 ∨ i = 93 ∨ i = 110 then (fun k => if k = 6 then -1 else 0) else if i = 127 then (fun k => if k = 3 then nI 134 else 0) else if i = 149 then upd (upd (upd (upd (upd (upd (fun _ => 0) 0 (-1)) 1 (-1)) 2 (-1)) 3 (-1)) 4 (-1)) 5 (-1) else if i = 152 then upd (upd (upd (upd (fun _ => 0) 0 (-1)) 1 (-1)) 2 (-1)) 3 (-1) else fun _ => 0, fun i k => if i = 0 then (if k = 15 then 1 else 0) else if i = 147 then (if k = 4 then 1 else 0) else 0)
def wk (D : va_G) (tA : Nat → ClassId) (sa a1 a2 : Nat → Nat) : WK := (D, (fun i => if i < 147 then a1 i else a2 (i - 147)), tA, sa)
theorem nI134 : (nI 134).toNatClampNeg = 134 := nI_clamp (by decide)
theorem rg165 : List.range 165 = [0, 1, 2, 3, 4, 5, 6, 7, 8, 9, 10, 11, 12, 13, 14, 15, 16, 17, 18, 19, 20, 21, 22, 23, 24, 25, 26, 27, 28, 29, 30, 31, 32, 33, 34, 35, 36, 37, 38, 39, 40, 41, 42, 43, 44, 45, 46, 47, 48, 49, 50, 51, 52, 53, 54, 55, 56, 57, 58, 59, 60, 61, 62, 63, 64, 65, 66, 67, 68, 69, 70, 71, 72, 73, 74, 75, 76, 77, 78, 79, 80, 81, 82, 83, 84, 85, 86, 87, 88, 89, 90, 91, 92, 93, 94, 95, 96, 97, 98, 99, 100, 101, 102, 103, 104, 105, 106, 107, 108, 109, 110, 111, 112, 113, 114, 115, 116, 117, 118, 119, 120, 121, 122, 123, 124, 125, 126, 127, 128, 129, 130, 131, 132, 133, 134, 135, 136, 137, 138, 139, 140, 141, 142, 143, 144, 145, 146, 147, 148, 149, 150, 151, 152, 153, 154, 155, 156, 157, 158, 159, 160, 161, 162, 163, 164] := by decide +kernel

theorem fixP {D : va_G} {ws : va_W} {H : Heap} {q0 a n : Nat} {cA : ClassId} {f g : Nat → Option Nat} (hP : va_P D vwCl ws H) (ha : ws[q0]? = some (a, .inl (cA, n, .inr (.inr (.inr (.inr f)))))) (hfg : ∀ j, j < n → f j = g j) : va_P D vwCl (ws.set q0 (a, .inl (cA, n, .inr (.inr (.inr (.inr g)))))) H := fun j x hx => by
  by_cases e : q0 = j
  · subst e
    have hlt : q0 < ws.length := (List.getElem?_eq_some_iff.mp ha).1
    rw [List.getElem?_set_self hlt] at hx
    cases hx
    have h1 : H[a]? = some (vp_cell cA (n, .inr (.inr (.inr (.inr f))))) := hP q0 _ ha
    show H[a]? = some (vp_cell cA (n, .inr (.inr (.inr (.inr g)))))
    rw [← zcell_eq hfg]
    exact h1
  · rw [List.getElem?_set_ne e] at hx
    exact hP j x hx
theorem ad_lo {D : va_G} {tA : Nat → ClassId} {sa a1 a2 : Nat → Nat} {i : Nat} (h : i < 147) : some (a1 i) = some ((wk D tA sa a1 a2).2.1 i) := by
  show some (a1 i) = some (if i < 147 then a1 i else a2 (i - 147))
  rw [if_pos h]
set_option maxRecDepth 100000 in
set_option maxHeartbeats 8000000 in
theorem wl_start {D : va_G} {tA : Nat → ClassId} {sa a1 a2 : Nat → Nat} {A : Nat → Prop} {H : Heap} (hP : va_P D vwCl (gX7 tA a1 ++ gX8 tA a2) H) (hD : va_D A (gX7 tA a1 ++ gX8 tA a2)) : va_P D vwCl (wl (wk D tA sa a1 a2) h0) H ∧ va_D A (wl (wk D tA sa a1 a2) h0) := by
  have hD := hD.set (p := 1) (a := a1 1) (e0 := .inl (tA 3, 6, .inr (.inr (.inr (.inr (fun j => some (a1 (2 + j)))))))) (e := .inl (tA 3, 6, .inr (.inr (.inr (.inr (fun j => some ((wk D tA sa a1 a2).2.1 (2 + j)))))))) rfl
  have hP := fixP (q0 := 1) (a := a1 1) (n := 6) (cA := tA 3) (f := fun j => some (a1 (2 + j))) (g := fun j => some ((wk D tA sa a1 a2).2.1 (2 + j))) hP rfl (fun j hj => ad_lo (by omega))
  have hD := hD.set (p := 9) (a := a1 9) (e0 := .inl (tA 4, 4, .inr (.inr (.inr (.inr (fun j => some (a1 (10 + j)))))))) (e := .inl (tA 4, 4, .inr (.inr (.inr (.inr (fun j => some ((wk D tA sa a1 a2).2.1 (10 + j)))))))) rfl
  have hP := fixP (q0 := 9) (a := a1 9) (n := 4) (cA := tA 4) (f := fun j => some (a1 (10 + j))) (g := fun j => some ((wk D tA sa a1 a2).2.1 (10 + j))) hP rfl (fun j hj => ad_lo (by omega))
  have hD := hD.set (p := 15) (a := a1 15) (e0 := .inl (tA 5, 4, .inr (.inr (.inr (.inr (fun j => some (a1 (16 + 2 * j)))))))) (e := .inl (tA 5, 4, .inr (.inr (.inr (.inr (fun j => some ((wk D tA sa a1 a2).2.1 (16 + 2 * j)))))))) rfl
  have hP := fixP (q0 := 15) (a := a1 15) (n := 4) (cA := tA 5) (f := fun j => some (a1 (16 + 2 * j))) (g := fun j => some ((wk D tA sa a1 a2).2.1 (16 + 2 * j))) hP rfl (fun j hj => ad_lo (by omega))
  have hD := hD.set (p := 24) (a := a1 24) (e0 := .inl (tA 6, 4, .inr (.inr (.inr (.inr (fun j => some (a1 (25 + 4 * j)))))))) (e := .inl (tA 6, 4, .inr (.inr (.inr (.inr (fun j => some ((wk D tA sa a1 a2).2.1 (25 + 4 * j)))))))) rfl
  have hP := fixP (q0 := 24) (a := a1 24) (n := 4) (cA := tA 6) (f := fun j => some (a1 (25 + 4 * j))) (g := fun j => some ((wk D tA sa a1 a2).2.1 (25 + 4 * j))) hP rfl (fun j hj => ad_lo (by omega))
  have hD := hD.set (p := 58) (a := a1 58) (e0 := .inl (tA 7, 3, .inr (.inr (.inr (.inr (fun j => some (a1 (59 + 17 * j)))))))) (e := .inl (tA 7, 3, .inr (.inr (.inr (.inr (fun j => some ((wk D tA sa a1 a2).2.1 (59 + 17 * j)))))))) rfl
  have hP := fixP (q0 := 58) (a := a1 58) (n := 3) (cA := tA 7) (f := fun j => some (a1 (59 + 17 * j))) (g := fun j => some ((wk D tA sa a1 a2).2.1 (59 + 17 * j))) hP rfl (fun j hj => ad_lo (by omega))
  have hD := hD.set (p := 139) (a := a1 139) (e0 := .inl (tA 3, 5, .inr (.inr (.inr (.inr (fun j => some (a1 (140 + j)))))))) (e := .inl (tA 3, 5, .inr (.inr (.inr (.inr (fun j => some ((wk D tA sa a1 a2).2.1 (140 + j)))))))) rfl
  have hP := fixP (q0 := 139) (a := a1 139) (n := 5) (cA := tA 3) (f := fun j => some (a1 (140 + j))) (g := fun j => some ((wk D tA sa a1 a2).2.1 (140 + j))) hP rfl (fun j hj => ad_lo (by omega))
  unfold wl
  rw [rg165]
  exact ⟨hP, hD⟩

theorem wcl_RL_7 : Cond.classLink RL 7 RX7 ∈ wsG := List.mem_filter.mpr ⟨List.mem_append_right _ (List.mem_append_left _ (List.mem_of_getElem? (i := 13) rfl)), rfl⟩
theorem wcl_RL_10 : Cond.classLink RL 10 RX8 ∈ wsG := List.mem_filter.mpr ⟨List.mem_append_right _ (List.mem_append_right _ (List.mem_append_right _ (List.mem_append_right _ (List.mem_append_left _ (List.mem_of_getElem? (i := 116) rfl))))), rfl⟩
theorem wins_RX7 : Cond.instantiable RX7 18 ∈ wsG := List.mem_filter.mpr ⟨List.mem_append_right _ (List.mem_append_left _ (List.mem_of_getElem? (i := 14) rfl)), rfl⟩
theorem wins_RX8 : Cond.instantiable RX8 29 ∈ wsG := List.mem_filter.mpr ⟨List.mem_append_right _ (List.mem_append_right _ (List.mem_append_right _ (List.mem_append_right _ (List.mem_append_left _ (List.mem_of_getElem? (i := 117) rfl))))), rfl⟩
theorem wc_X7_init : Cond.code yX7_init cX7_init 2 none ∈ wsG := List.mem_filter.mpr ⟨List.mem_append_right _ (List.mem_append_left _ (List.mem_of_getElem? (i := 17) rfl)), rfl⟩
theorem wi_X7_init : Cond.instanceMethod yX7_init ∈ wsG := List.mem_filter.mpr ⟨List.mem_append_right _ (List.mem_append_left _ (List.mem_of_getElem? (i := 16) rfl)), rfl⟩
theorem wml_RL_9 : Cond.methodLink RL 9 yX7_init ∈ wsG := List.mem_filter.mpr ⟨List.mem_append_right _ (List.mem_append_left _ (List.mem_of_getElem? (i := 15) rfl)), rfl⟩
theorem wc_X8_init : Cond.code yX8_init cX8_init 2 none ∈ wsG := List.mem_filter.mpr ⟨List.mem_append_right _ (List.mem_append_right _ (List.mem_append_right _ (List.mem_append_right _ (List.mem_append_left _ (List.mem_of_getElem? (i := 120) rfl))))), rfl⟩
theorem wi_X8_init : Cond.instanceMethod yX8_init ∈ wsG := List.mem_filter.mpr ⟨List.mem_append_right _ (List.mem_append_right _ (List.mem_append_right _ (List.mem_append_right _ (List.mem_append_left _ (List.mem_of_getElem? (i := 119) rfl))))), rfl⟩
theorem wml_RL_12 : Cond.methodLink RL 12 yX8_init ∈ wsG := List.mem_filter.mpr ⟨List.mem_append_right _ (List.mem_append_right _ (List.mem_append_right _ (List.mem_append_right _ (List.mem_append_left _ (List.mem_of_getElem? (i := 118) rfl))))), rfl⟩
theorem l_free {H H0 : Heap} {q : Nat} {e0 : va_E} {ws : va_W} {locs : List Loc} (hD : va_D (fun q : Nat => H0.size ≤ q) (ws ++ [(q, e0)])) (hS : va_S (fun q : Nat => H0.size ≤ q) H0 H locs) : ∀ x : Nat, va_A [(q, e0)] H.size x → H0.size ≤ x := fun x h => by
  rcases h with ⟨k2, e2, h⟩ | h
  · have h0 : k2 < 1 := (List.getElem?_eq_some_iff.mp h).1
    rw [show k2 = 0 by omega] at h
    have hq : (q, e0) = (x, e2) := Option.some.inj h
    have hq1 : q = x := (Prod.mk.inj hq).1
    rw [← hq1]
    exact hD.2 ws.length (q, e0) (by rw [List.getElem?_append_right (Nat.le_refl _), Nat.sub_self]; rfl)
  · exact Nat.le_trans hS.1 h
set_option maxRecDepth 100000 in
set_option maxHeartbeats 8000000 in
theorem start_of {Inv : TT → Prop} (HS : STEPS Inv) (H0 : Inv h0) {p : Program} {e : Env} {s : State} {m : MethodId} {below : List Frame} {meth : Method} {c : Code} (l : Launch) {b L : Nat} {xs : Nat → Int32} (hL : L ≤ 3584) (C0 : lw_At p s m meth c b L xs) : W p l e room_1 s m #[Value.ref b] below meth c s.heap [] 0 0 (lw_Z below #[Value.ref b] s) (entryFrame m ([Value.ref b] : List Value).toArray 4) := by
  obtain ⟨hx, hb, hr, hml, hown, hts, hX, hbl, hlocks, hgv⟩ := id C0
  have hws := lx_ws C0
  have hA : ∀ q : Nat, s.heap.size ≤ q → (fun q : Nat => s.heap.size ≤ q) q := fun _ h => h
  obtain ⟨c0, i0, hn0⟩ := u_known (C := RX0) (T := TX0) (N := 17) (n := 17) hws inG0 (hws _ wins_RX0)
  obtain ⟨c1, i1, hn1⟩ := u_known (C := RX1) (T := TX1) (N := 2) (n := 2) hws inG1 (hws _ wins_RX1)
  obtain ⟨c2, i2, hn2⟩ := u_known (C := RX2) (T := TX2) (N := 7) (n := 7) hws inG2 (hws _ wins_RX2)
  obtain ⟨c3, i3, hn3⟩ := u_known (C := RX3) (T := TX3) (N := 7) (n := 7) hws inG3 (hws _ wins_RX3)
  obtain ⟨c4, i4, hn4⟩ := u_known (C := RX4) (T := TX4) (N := 7) (n := 7) hws inG4 (hws _ wins_RX4)
  obtain ⟨c5, i5, hn5⟩ := u_known (C := RX5) (T := TX5) (N := 2) (n := 2) hws inG5 (hws _ wins_RX5)
  obtain ⟨c6, i6, hn6⟩ := u_known (C := RX6) (T := TX6) (N := 1) (n := 1) hws inG6 (hws _ wins_RX6)
  obtain ⟨c7, i7, hn7⟩ := u_known (C := RX7) (T := TX7) (N := 18) (n := 18) hws inG7 (hws _ wins_RX7)
  obtain ⟨c8, i8, hn8⟩ := u_known (C := RX8) (T := TX8) (N := 29) (n := 29) hws inG8 (hws _ wins_RX8)
  obtain ⟨D, hKc⟩ : ∃ D : va_G, ∀ (k : Nat) (q : vw_C), vwCl[k]? = some q → u_Kn s q.1 q.2.1 q.2.2 (D.1 k) (D.2 k) := by
    refine ⟨(fun k => if k = 0 then c0 else if k = 1 then c1 else if k = 2 then c2 else if k = 3 then c3 else if k = 4 then c4 else if k = 5 then c5 else if k = 6 then c6 else if k = 7 then c7 else c8, fun k => if k = 0 then i0 else if k = 1 then i1 else if k = 2 then i2 else if k = 3 then i3 else if k = 4 then i4 else if k = 5 then i5 else if k = 6 then i6 else if k = 7 then i7 else i8), ?_⟩
    intro k q hq
    match k, hq with
    | 0, hq => cases hq; exact hn0
    | 1, hq => cases hq; exact hn1
    | 2, hq => cases hq; exact hn2
    | 3, hq => cases hq; exact hn3
    | 4, hq => cases hq; exact hn4
    | 5, hq => cases hq; exact hn5
    | 6, hq => cases hq; exact hn6
    | 7, hq => cases hq; exact hn7
    | 8, hq => cases hq; exact hn8
    | k + 9, hq => simp [vwCl] at hq
  obtain ⟨t0, k0, m0, f0, g0, d0⟩ := Cond.arrayClass_spec (hts (.arrayClass .int) (List.mem_append_right _ (List.mem_append_left _ (List.mem_of_getElem? (i := 47) rfl))))
  obtain ⟨t1, k1, m1, f1, g1, d1⟩ := Cond.arrayClass_spec (hts (.arrayClass .byte) (List.mem_append_right _ (List.mem_append_left _ (List.mem_of_getElem? (i := 48) rfl))))
  obtain ⟨t2, k2, m2, f2, g2, d2⟩ := Cond.arrayClass_spec (hts (.arrayClass .boolean) (List.mem_append_right _ (List.mem_append_right _ (List.mem_append_right _ (List.mem_append_right _ (List.mem_append_left _ (List.mem_of_getElem? (i := 210) rfl)))))))
  have ha3 : (Cond.arrayOver (.array .int)).before #[Value.ref b] s = true := hts _ (List.mem_append_right _ (List.mem_append_left _ (List.mem_of_getElem? (i := 22) rfl)))
  obtain ⟨m3, t3, k3, n3, f3, g3, d3⟩ := mz_over ha3
  have ha4 : (Cond.arrayOver (.array .byte)).before #[Value.ref b] s = true := hts _ (List.mem_append_right _ (List.mem_append_left _ (List.mem_of_getElem? (i := 27) rfl)))
  obtain ⟨m4, t4, k4, n4, f4, g4, d4⟩ := mz_over ha4
  have ha5 : (Cond.arrayOver (.object "SnowHouse$Snow")).before #[Value.ref b] s = true := hts _ (List.mem_append_right _ (List.mem_append_left _ (List.mem_of_getElem? (i := 29) rfl)))
  obtain ⟨m5, t5, k5, n5, -, g5, d5, f5⟩ := Cond.arrayOver_spec ha5
  have ha6 : (Cond.arrayOver (.object "SnowHouse$Plan")).before #[Value.ref b] s = true := hts _ (List.mem_append_right _ (List.mem_append_left _ (List.mem_of_getElem? (i := 50) rfl)))
  obtain ⟨m6, t6, k6, n6, -, g6, d6, f6⟩ := Cond.arrayOver_spec ha6
  have ha7 : (Cond.arrayOver (.object "SnowHouse$Build")).before #[Value.ref b] s = true := hts _ (List.mem_append_right _ (List.mem_append_left _ (List.mem_of_getElem? (i := 163) rfl)))
  obtain ⟨m7, t7, k7, n7, -, g7, d7, f7⟩ := Cond.arrayOver_spec ha7
  obtain ⟨tA, hTA⟩ : ∃ tA : Nat → ClassId, ∀ (k : Nat) (q : ClassId × FieldType), (tyL tA)[k]? = some q → ArrOfT s q.1 q.2 ∧ va_RA s q.1 q.2 := by
    refine ⟨fun k => if k = 0 then t0 else if k = 1 then t1 else if k = 2 then t2 else if k = 3 then t3 else if k = 4 then t4 else if k = 5 then t5 else if k = 6 then t6 else t7, ?_⟩
    intro k q hq
    match k, hq with
    | 0, hq => cases hq; exact ⟨fun n z => ⟨(fun q hq => by cases hq), k0, g0, m0, d0⟩, f0⟩
    | 1, hq => cases hq; exact ⟨fun n z => ⟨(fun q hq => by cases hq), k1, g1, m1, d1⟩, f1⟩
    | 2, hq => cases hq; exact ⟨fun n z => ⟨(fun q hq => by cases hq), k2, g2, m2, d2⟩, f2⟩
    | 3, hq => cases hq; exact ⟨fun n z => ⟨(fun q hq => by cases hq), k3, g3, m3, d3⟩, f3⟩
    | 4, hq => cases hq; exact ⟨fun n z => ⟨(fun q hq => by cases hq), k4, g4, m4, d4⟩, f4⟩
    | 5, hq => cases hq; exact ⟨fun n z => ⟨(fun q hq => by cases hq), k5, g5, m5, d5⟩, k5, m5, g5, d5, n5, f5⟩
    | 6, hq => cases hq; exact ⟨fun n z => ⟨(fun q hq => by cases hq), k6, g6, m6, d6⟩, k6, m6, g6, d6, n6, f6⟩
    | 7, hq => cases hq; exact ⟨fun n z => ⟨(fun q hq => by cases hq), k7, g7, m7, d7⟩, k7, m7, g7, d7, n7, f7⟩
    | k + 8, hq => simp [tyL] at hq
  have hK : va_K D vwCl (tyL tA) s := ⟨hKc, hTA⟩
  have hKC : KC D tA s := ⟨hK, List.forall_mem_cons.mpr ⟨va_Nw.of rfl (hts _ (List.mem_append_right _ (List.mem_append_left _ (List.mem_of_getElem? (i := 31) rfl)))), List.forall_mem_cons.mpr ⟨va_Nw.of rfl (hts _ (List.mem_append_right _ (List.mem_append_left _ (List.mem_of_getElem? (i := 52) rfl)))), List.forall_mem_cons.mpr ⟨va_Nw.of rfl (hts _ (List.mem_append_right _ (List.mem_append_left _ (List.mem_of_getElem? (i := 96) rfl)))), List.forall_mem_cons.mpr ⟨va_Nw.of rfl (hts _ (List.mem_append_right _ (List.mem_append_left _ (List.mem_of_getElem? (i := 101) rfl)))), List.forall_mem_cons.mpr ⟨va_Nw.of rfl (hts _ (List.mem_append_right _ (List.mem_append_left _ (List.mem_of_getElem? (i := 103) rfl)))), List.forall_mem_cons.mpr ⟨va_Nw.of rfl (hts _ (List.mem_append_right _ (List.mem_append_left _ (List.mem_of_getElem? (i := 166) rfl)))), List.forall_mem_cons.mpr ⟨va_Nw.of rfl (hts _ (List.mem_append_right _ (List.mem_append_left _ (List.mem_of_getElem? (i := 171) rfl)))), List.forall_mem_cons.mpr ⟨va_Nw.of rfl (hts _ (List.mem_append_right _ (List.mem_append_left _ (List.mem_of_getElem? (i := 173) rfl)))), List.forall_mem_cons.mpr ⟨va_Nw.of rfl (hts _ (List.mem_append_right _ (List.mem_append_left _ (List.mem_of_getElem? (i := 201) rfl)))), List.forall_mem_cons.mpr ⟨va_Nw.of rfl (hts _ (List.mem_append_right _ (List.mem_append_left _ (List.mem_of_getElem? (i := 231) rfl)))), List.forall_mem_cons.mpr ⟨va_Nw.of rfl (hts _ (List.mem_append_right _ (List.mem_append_right _ (List.mem_append_left _ (List.mem_of_getElem? (i := 2) rfl))))), (fun _ h => absurd h List.not_mem_nil)⟩⟩⟩⟩⟩⟩⟩⟩⟩⟩⟩, va_AO.of ha5, va_AO.of ha6, va_AO.of ha7, va_AOA.of ha3, va_AOA.of ha4⟩
  have hNF : NF s := ⟨List.forall_mem_cons.mpr ⟨va_Nw.of rfl (hts _ (List.mem_append_right _ (List.mem_append_right _ (List.mem_append_left _ (List.mem_of_getElem? (i := 151) rfl))))), List.forall_mem_cons.mpr ⟨va_Nw.of rfl (hts _ (List.mem_append_right _ (List.mem_append_right _ (List.mem_append_left _ (List.mem_of_getElem? (i := 235) rfl))))), List.forall_mem_cons.mpr ⟨va_Nw.of rfl (hts _ (List.mem_append_right _ (List.mem_append_right _ (List.mem_append_right _ (List.mem_append_left _ (List.mem_of_getElem? (i := 43) rfl)))))), List.forall_mem_cons.mpr ⟨va_Nw.of rfl (hts _ (List.mem_append_right _ (List.mem_append_right _ (List.mem_append_right _ (List.mem_append_left _ (List.mem_of_getElem? (i := 177) rfl)))))), List.forall_mem_cons.mpr ⟨va_Nw.of rfl (hts _ (List.mem_append_right _ (List.mem_append_right _ (List.mem_append_right _ (List.mem_append_left _ (List.mem_of_getElem? (i := 217) rfl)))))), List.forall_mem_cons.mpr ⟨va_Nw.of rfl (hts _ (List.mem_append_right _ (List.mem_append_right _ (List.mem_append_right _ (List.mem_append_left _ (List.mem_of_getElem? (i := 226) rfl)))))), List.forall_mem_cons.mpr ⟨va_Nw.of rfl (hts _ (List.mem_append_right _ (List.mem_append_right _ (List.mem_append_right _ (List.mem_append_right _ (List.mem_append_left _ (List.mem_of_getElem? (i := 13) rfl))))))), (fun _ h => absurd h List.not_mem_nil)⟩⟩⟩⟩⟩⟩⟩, List.forall_mem_cons.mpr ⟨va_Nw.of rfl (hts _ (List.mem_append_right _ (List.mem_append_right _ (List.mem_append_left _ (List.mem_of_getElem? (i := 187) rfl))))), List.forall_mem_cons.mpr ⟨va_Nw.of rfl (hts _ (List.mem_append_right _ (List.mem_append_right _ (List.mem_append_left _ (List.mem_of_getElem? (i := 189) rfl))))), List.forall_mem_cons.mpr ⟨va_Nw.of rfl (hts _ (List.mem_append_right _ (List.mem_append_right _ (List.mem_append_left _ (List.mem_of_getElem? (i := 191) rfl))))), List.forall_mem_cons.mpr ⟨va_Nw.of rfl (hts _ (List.mem_append_right _ (List.mem_append_right _ (List.mem_append_left _ (List.mem_of_getElem? (i := 180) rfl))))), (fun _ h => absurd h List.not_mem_nil)⟩⟩⟩⟩⟩
  have hs := flat_of_before _ hgv
  obtain ⟨s0, es0, hT0⟩ := va_Tof (args := #[Value.ref b]) (s := s) (tm := (.static "SnowHouse" "WORTH_LETTERS" "[I")) (ty := .int) (N := 4) (f := fun k => .int (sv 0 k)) (A := fun q => s.heap.size ≤ q) (by decide) (hs (.arrayOf (.static "SnowHouse" "WORTH_LETTERS" "[I") .int) (by decide +kernel)) (va_eqt (hs (.eq (.length (.static "SnowHouse" "WORTH_LETTERS" "[I")) (.int 4)) (by decide +kernel))) (fun j hj => by
    rcases (show j = 0 ∨ j = 1 ∨ j = 2 ∨ j = 3 by omega) with rfl | rfl | rfl | rfl
    · exact va_eqt (hs (.eq (.elem (.static "SnowHouse" "WORTH_LETTERS" "[I") (.int 0)) (.int 103)) (by decide +kernel))
    · exact va_eqt (hs (.eq (.elem (.static "SnowHouse" "WORTH_LETTERS" "[I") (.int 1)) (.int 114)) (by decide +kernel))
    · exact va_eqt (hs (.eq (.elem (.static "SnowHouse" "WORTH_LETTERS" "[I") (.int 2)) (.int 99)) (by decide +kernel))
    · exact va_eqt (hs (.eq (.elem (.static "SnowHouse" "WORTH_LETTERS" "[I") (.int 3)) (.int 119)) (by decide +kernel))) (fun a h => Nat.not_le.mpr h)
  have hZ0 := va_Zof (A := fun q => s.heap.size ≤ q) (hts (.laysStatic "SnowHouse" "WORTH_LETTERS" "[I") (List.mem_append_right _ (List.mem_append_right _ (List.mem_append_left _ (List.mem_of_getElem? (i := 188) rfl))))) (hts (.initialized "SnowHouse") (List.mem_append_right _ (List.mem_append_left _ (List.mem_of_getElem? (i := 1) rfl)))) es0 (fun a h => Nat.not_le.mpr h)
  obtain ⟨s1, es1, hT1⟩ := va_Tof (args := #[Value.ref b]) (s := s) (tm := (.static "SnowHouse" "WORTH_LEAST" "[I")) (ty := .int) (N := 4) (f := fun k => .int (sv 1 k)) (A := fun q => s.heap.size ≤ q) (by decide) (hs (.arrayOf (.static "SnowHouse" "WORTH_LEAST" "[I") .int) (by decide +kernel)) (va_eqt (hs (.eq (.length (.static "SnowHouse" "WORTH_LEAST" "[I")) (.int 4)) (by decide +kernel))) (fun j hj => by
    rcases (show j = 0 ∨ j = 1 ∨ j = 2 ∨ j = 3 by omega) with rfl | rfl | rfl | rfl
    · exact va_eqt (hs (.eq (.elem (.static "SnowHouse" "WORTH_LEAST" "[I") (.int 0)) (.int 1)) (by decide +kernel))
    · exact va_eqt (hs (.eq (.elem (.static "SnowHouse" "WORTH_LEAST" "[I") (.int 1)) (.int 0)) (by decide +kernel))
    · exact va_eqt (hs (.eq (.elem (.static "SnowHouse" "WORTH_LEAST" "[I") (.int 2)) (.int 0)) (by decide +kernel))
    · exact va_eqt (hs (.eq (.elem (.static "SnowHouse" "WORTH_LEAST" "[I") (.int 3)) (.int 1)) (by decide +kernel))) (fun a h => Nat.not_le.mpr h)
  have hZ1 := va_Zof (A := fun q => s.heap.size ≤ q) (hts (.laysStatic "SnowHouse" "WORTH_LEAST" "[I") (List.mem_append_right _ (List.mem_append_right _ (List.mem_append_left _ (List.mem_of_getElem? (i := 190) rfl))))) (hts (.initialized "SnowHouse") (List.mem_append_right _ (List.mem_append_left _ (List.mem_of_getElem? (i := 1) rfl)))) es1 (fun a h => Nat.not_le.mpr h)
  obtain ⟨s2, es2, hT2⟩ := va_Tof (args := #[Value.ref b]) (s := s) (tm := (.static "SnowHouse" "WORTH_MOST" "[I")) (ty := .int) (N := 4) (f := fun k => .int (sv 2 k)) (A := fun q => s.heap.size ≤ q) (by decide) (hs (.arrayOf (.static "SnowHouse" "WORTH_MOST" "[I") .int) (by decide +kernel)) (va_eqt (hs (.eq (.length (.static "SnowHouse" "WORTH_MOST" "[I")) (.int 4)) (by decide +kernel))) (fun j hj => by
    rcases (show j = 0 ∨ j = 1 ∨ j = 2 ∨ j = 3 by omega) with rfl | rfl | rfl | rfl
    · exact va_eqt (hs (.eq (.elem (.static "SnowHouse" "WORTH_MOST" "[I") (.int 0)) (.int 30)) (by decide +kernel))
    · exact va_eqt (hs (.eq (.elem (.static "SnowHouse" "WORTH_MOST" "[I") (.int 1)) (.int 9)) (by decide +kernel))
    · exact va_eqt (hs (.eq (.elem (.static "SnowHouse" "WORTH_MOST" "[I") (.int 2)) (.int 40)) (by decide +kernel))
    · exact va_eqt (hs (.eq (.elem (.static "SnowHouse" "WORTH_MOST" "[I") (.int 3)) (.int 9)) (by decide +kernel))) (fun a h => Nat.not_le.mpr h)
  have hZ2 := va_Zof (A := fun q => s.heap.size ≤ q) (hts (.laysStatic "SnowHouse" "WORTH_MOST" "[I") (List.mem_append_right _ (List.mem_append_right _ (List.mem_append_left _ (List.mem_of_getElem? (i := 192) rfl))))) (hts (.initialized "SnowHouse") (List.mem_append_right _ (List.mem_append_left _ (List.mem_of_getElem? (i := 1) rfl)))) es2 (fun a h => Nat.not_le.mpr h)
  obtain ⟨s3, es3, hT3⟩ := va_Tof (args := #[Value.ref b]) (s := s) (tm := (.static "SnowHouse" "WORTH_USUAL" "[I")) (ty := .int) (N := 4) (f := fun k => .int (sv 3 k)) (A := fun q => s.heap.size ≤ q) (by decide) (hs (.arrayOf (.static "SnowHouse" "WORTH_USUAL" "[I") .int) (by decide +kernel)) (va_eqt (hs (.eq (.length (.static "SnowHouse" "WORTH_USUAL" "[I")) (.int 4)) (by decide +kernel))) (fun j hj => by
    rcases (show j = 0 ∨ j = 1 ∨ j = 2 ∨ j = 3 by omega) with rfl | rfl | rfl | rfl
    · exact va_eqt (hs (.eq (.elem (.static "SnowHouse" "WORTH_USUAL" "[I") (.int 0)) (.int 12)) (by decide +kernel))
    · exact va_eqt (hs (.eq (.elem (.static "SnowHouse" "WORTH_USUAL" "[I") (.int 1)) (.int 4)) (by decide +kernel))
    · exact va_eqt (hs (.eq (.elem (.static "SnowHouse" "WORTH_USUAL" "[I") (.int 2)) (.int 20)) (by decide +kernel))
    · exact va_eqt (hs (.eq (.elem (.static "SnowHouse" "WORTH_USUAL" "[I") (.int 3)) (.int 3)) (by decide +kernel))) (fun a h => Nat.not_le.mpr h)
  have hZ3 := va_Zof (A := fun q => s.heap.size ≤ q) (hts (.laysStatic "SnowHouse" "WORTH_USUAL" "[I") (List.mem_append_right _ (List.mem_append_right _ (List.mem_append_left _ (List.mem_of_getElem? (i := 181) rfl))))) (hts (.initialized "SnowHouse") (List.mem_append_right _ (List.mem_append_left _ (List.mem_of_getElem? (i := 1) rfl)))) es3 (fun a h => Nat.not_le.mpr h)
  have hS : va_S (fun q : Nat => s.heap.size ≤ q) s.heap s.heap [] := va_S.rf
  have hP : va_P D vwCl [] s.heap := fun k q h => by simp at h
  have hD : va_D (fun q : Nat => s.heap.size ≤ q) [] := ⟨fun i j p q h => by simp at h, fun k q h => by simp at h⟩
  have hl := lv_entry ([.ref b]) (n := 4) (Nat.le_of_ble_eq_true rfl)
  rw [lg_entry_eq]
  generalize (lg_sl ([.ref b]) ++ List.replicate (4 - (lg_sl ([.ref b])).length) Slot.unset).toArray = ls at hl ⊢
  have hl : lv_has ls 4 [(0, .ref b)] := hl
  refine va_new (D := D) (ci := 7) (fs := [.null, .null, .null, .null, .null, .null, .null, .null, .null, .null, .null, .null, .null, .int 0, .long 0, .long 0, .int 0, .null]) (C := RX7) (T := TX7) (N := 18) hx hb hws inG7 tyX7 tyX7_ok hown (hws _ wcl_RL_7) (hws _ wins_RX7) (hws _ wn_RX7) hK hP hD hS hA rfl df_RX7 (Nat.le_of_ble_eq_true rfl) (Nat.le_of_ble_eq_true rfl) dL_law_0 (fun q1 H hP hD hS => ?_)
  refine lv_dup hx hb dL_law_3 rfl ?_
  have hFA := l_free hD hS
  refine va_callv (va_runI (R := room_1) (As := []) (rest := [.ref q1]) (b := q1) ⟨hx, hb, hml, hown, hws⟩ (k_X7 (l := l) (D := D) (tA := tA) (q := q1) H.size) (cwI 0 hws (goodG wc_X7_init) rfl rfl rfl (hws _ wn_RX7) (hws _ wml_RL_9) (hws _ wi_X7_init) rfl (by decide +kernel) ⟨Nat.le_of_ble_eq_true rfl, Nat.le_of_ble_eq_true rfl⟩) ⟨PK.blind, fun U hU hW => ⟨rfl, by rw [hU], by rw [hU]; exact c_sub hP, hKC.go hW⟩⟩ rfl rfl hl.1 rfl (lv_room (Nat.le_of_ble_eq_true rfl)) dL_law_4 ⟨Nat.le_of_ble_eq_true rfl, Nat.le_of_ble_eq_true rfl⟩) hS (fun q _ h => hFA q h) hFA (fun a1 t H1 locs ht hvm hw hB hz1 hk1 hS => ?_)
  subst hw
  obtain ⟨hP1, hD1⟩ := hB
  rw [ht] at hP1
  obtain ⟨hP, hD⟩ := c_join hP hD hk1 hFA hP1 hD1
  refine lv_astore_n (lv' := [(1, .ref (a1 0)), (0, .ref b)]) hx hb dL_law_7 rfl hl (by decide) rfl (fun ls hl => ?_)
  refine va_new (D := D) (ci := 8) (fs := [.int 0, .null, .int 0, .long 0, .long 0, .null, .null, .null, .null, .null, .null, .null, .null, .null, .int 0, .int 0, .int 0, .int 0, .null, .null, .null, .null, .int 0, .null, .null, .null, .int 0, .int 0, .long 0]) (C := RX8) (T := TX8) (N := 29) hx hb hws inG8 tyX8 tyX8_ok hown (hws _ wcl_RL_10) (hws _ wins_RX8) (hws _ wn_RX8) hK hP hD hS hA rfl df_RX8 (Nat.le_of_ble_eq_true rfl) (Nat.le_of_ble_eq_true rfl) dL_law_8 (fun q2 H hP hD hS => ?_)
  refine lv_dup hx hb dL_law_11 rfl ?_
  have hFA := l_free hD hS
  refine va_callv (va_runI (R := room_1) (As := []) (rest := [.ref q2]) (b := q2) ⟨hx, hb, hml, hown, hws⟩ (k_X8 (l := l) (D := D) (tA := tA) (q := q2) H.size) (cwI 0 hws (goodG wc_X8_init) rfl rfl rfl (hws _ wn_RX8) (hws _ wml_RL_12) (hws _ wi_X8_init) rfl (by decide +kernel) ⟨Nat.le_of_ble_eq_true rfl, Nat.le_of_ble_eq_true rfl⟩) ⟨PK.blind, fun U hU hW => ⟨rfl, by rw [hU], by rw [hU]; exact c_sub hP, hKC.go hW⟩⟩ rfl rfl hl.1 rfl (lv_room (Nat.le_of_ble_eq_true rfl)) dL_law_12 ⟨Nat.le_of_ble_eq_true rfl, Nat.le_of_ble_eq_true rfl⟩) hS (fun q _ h => hFA q h) hFA (fun a2 t H1 locs ht hvm hw hB hz1 hk1 hS => ?_)
  subst hw
  obtain ⟨hP1, hD1⟩ := hB
  rw [ht] at hP1
  obtain ⟨hP, hD⟩ := c_join hP hD hk1 hFA hP1 hD1
  refine lv_astore_n (lv' := [(2, .ref (a2 0)), (1, .ref (a1 0)), (0, .ref b)]) hx hb dL_law_15 rfl hl (by decide) rfl (fun ls hl => ?_)
  refine lv_iconst (v := 0) hx hb dL_law_16 (by decide) ?_
  refine lv_istore_n (lv' := [(3, .int 0), (2, .ref (a2 0)), (1, .ref (a1 0)), (0, .ref b)]) hx hb dL_law_17 rfl hl (by decide) rfl (fun ls hl => ?_)
  have hP : va_P D vwCl (gX7 tA a1 ++ gX8 tA a2) H1 := hP
  have hD : va_D (fun q : Nat => s.heap.size ≤ q) (gX7 tA a1 ++ gX8 tA a2) := hD
  obtain ⟨hP, hD⟩ := wl_start (sa := fun k => if k = 0 then s0 else if k = 1 then s1 else if k = 2 then s2 else s3) hP hD
  generalize hw : wk D tA (fun k => if k = 0 then s0 else if k = 1 then s1 else if k = 2 then s2 else s3) a1 a2 = w at hP hD
  have e1 : w.1 = D := by rw [← hw]; rfl
  have e2 : w.2.2.1 = tA := by rw [← hw]; rfl
  have e3 : w.2.2.2 = (fun k => if k = 0 then s0 else if k = 1 then s1 else if k = 2 then s2 else s3) := by rw [← hw]; rfl
  have e4 : w.2.1 0 = a1 0 := by rw [← hw]; rfl
  have e5 : w.2.1 147 = a2 0 := by rw [← hw]; rfl
  have hAA : ∀ q : Nat, AA w q → s.heap.size ≤ q := fun q hq => by
    obtain ⟨i, hi, e⟩ := hq
    rw [← e]
    exact hD.2 i _ (wl_at hi)
  have hWD : WD w := fun i j hi hj e => hD.1 i j _ _ (wl_at hi) (wl_at hj) e
  have hSF : SF w s s.heap := fun j hj => by
    rw [e3]
    rcases (show j = 0 ∨ j = 1 ∨ j = 2 ∨ j = 3 by omega) with rfl | rfl | rfl | rfl
    · exact ⟨hZ0.narrow hAA, hT0.narrow hAA⟩
    · exact ⟨hZ1.narrow hAA, hT1.narrow hAA⟩
    · exact ⟨hZ2.narrow hAA, hT2.narrow hAA⟩
    · exact ⟨hZ3.narrow hAA, hT3.narrow hAA⟩
  have hKS : KS w s s.heap := ⟨by rw [e1, e2]; exact hK, hNF, hSF, hWD⟩
  have X : LX p s m meth c w b L (0 + 1 + 146 + 1 + 17) (0 + 18 + 3889 + 29 + 1893) xs := ⟨C0, hKS, hAA, hL, Nat.le_of_ble_eq_true rfl, Nat.le_of_ble_eq_true rfl⟩
  refine law_loop X HS (L + 8) 0 h0 (Nat.zero_le _) (by omega) H0 H1 _ ls (by rw [e1]; exact hP) hS ?_
  rw [e4, e5]
  exact lv_sub hl [3, 2, 1, 0] rfl
