/-! THE CLAIM OUT OF ONE WALK OF THE LAW'S BODY. Your part is whole_start (and what it stands on); all else here is the same for every law, but numbers. -/
def R_law : String := "SnowHouseLaw"
def lw_P (b : Addr) (xs : List Int32) (args : Array Value) (s : State) : Prop := args = #[.ref b] ∧ s.IntsAt b xs ∧ xs.length ≤ 3584 ∧ (Jvm.Cond.and given_1 narrow_1).before args s = true
def lw_Q (_ : Array Value) (s : State) (o : Outcome) (t : State) : Prop := o = .returned (some (.int 1)) ∧ Framed s o t [] 600000 7302250
def lw_Z (below : List Frame) (a : Array Value) (s : State) : State → Prop := fun t => ∃ o, t.status = .running ∧ Ended t below o ∧ lw_Q a s o t
/-- the law's own end, with 1 on the stack, nothing written that was there before, its room as the claim has it -/
theorem lw_ret {p : Program} {l : Launch} {e : Env} {s : State} {m : MethodId} {below : List Frame} {meth : Method} {c : Code} {b : Nat} (hx : p.tables.exec = Jvm.exec) (hb : c.code = code) (hr : meth.sig.returnType = ret) (hlocks : meth.locks = false) {pc : Nat} {H : Heap} {ls : Array Slot} (hdg : decode code pc = .ok (.ireturn, 1)) : W p l e room_1 s m #[Value.ref b] below meth c H [] 600000 7302250 (lw_Z below #[Value.ref b] s) (F0 m pc ls [.int 1]) := by
  intro T hT X
  obtain ⟨fs, hret, hrun, hended, hW, hframe⟩ := X.leave (v := some (.int 1)) (hlocks := hlocks) (fun h => by rw [hr] at h; cases h)
  have hmeth' : T.vm.method? m = some meth := X.method'
  refine ⟨T.setFrames fs, ?_, .returned (some (.int 1)), hrun, hended, rfl, ⟨_, rfl⟩, hW, hframe⟩
  jvm_step X.here [X.here.top, hx, hb, hdg, hmeth', hr, ret, narrow_b1]
  (try refine ⟨rfl, ?_⟩); (try refine ⟨rfl, ?_⟩)
  first | (intro acts; rw [hret _ acts rfl rfl rfl]) | rw [hret _ _ rfl rfl rfl]
  exact Steps.refl _
/-- what holds at the law's entry: the machine, the code, the tables' words (any of lw_tbl by 'hts w (by decide +kernel)'), the script of L ints xs at the cell b, what the Statement gives of the start (any of its parts by flat_of_before) -/
def lw_At (p : Program) (s : State) (m : MethodId) (meth : Method) (c : Code) (b L : Nat) (xs : Nat → Int32) : Prop :=
  p.tables.exec = Jvm.exec ∧ c.code = code ∧ meth.sig.returnType = ret ∧ c.maxLocals = 4 ∧ s.vm.findClass R_law = some m.cls ∧ (∀ w ∈ lw_tbl, w.before #[Value.ref b] s = true) ∧ va_X b L xs s s.heap ∧ b < s.heap.size ∧ meth.locks = false ∧ (Jvm.Cond.and given_1 narrow_1).before #[Value.ref b] s = true
/-- the law's walk -/
def GL (p : Program) (l : Launch) (e : Env) (s : State) (m : MethodId) (below : List Frame) (meth : Method) (c : Code) (w : WK) (b cells slots : Nat) (pc : Nat) (lv : List (Nat × Value)) (st : List Value) (h : TT) : Prop :=
  ∀ (H : Heap) (locs : List Loc) (ls : Array Slot), va_P w.1 vwCl (wl w h) H → va_S (fun q => s.heap.size ≤ q) s.heap H locs → lv_has ls 4 lv → W p l e room_1 s m #[Value.ref b] below meth c H locs cells slots (lw_Z below #[Value.ref b] s) (F0 m pc ls st)
def LX (p : Program) (s : State) (m : MethodId) (meth : Method) (c : Code) (w : WK) (b L cells slots : Nat) (xs : Nat → Int32) : Prop :=
  lw_At p s m meth c b L xs ∧ KS w s s.heap ∧ (∀ q, AA w q → s.heap.size ≤ q) ∧ L ≤ 3584 ∧ cells ≤ 600000 ∧ slots ≤ 7302250
theorem lx_ws {p : Program} {s : State} {m : MethodId} {meth : Method} {c : Code} {b L : Nat} {xs : Nat → Int32} (h : lw_At p s m meth c b L xs) : ∀ x ∈ wsG, x.before #[Value.ref b] s = true := fun x hx => h.2.2.2.2.2.1 x (List.mem_filter.mp hx).1
section LAWS
variable {p : Program} {l : Launch} {e : Env} {s : State} {m : MethodId} {below : List Frame} {meth : Method} {c : Code} {w : WK} {b L cells slots : Nat} {xs : Nat → Int32} {pc : Nat} {lv lv' : List (Nat × Value)} {st : List Value} {h : TT}
theorem l_iadd (X : LX p s m meth c w b L cells slots xs) {x y : Int32} (hd : decode code pc = .ok (.iadd, 1)) (k : GL p l e s m below meth c w b cells slots (pc + 1) lv (.int (x + y) :: st) h) : GL p l e s m below meth c w b cells slots pc lv (.int y :: .int x :: st) h := fun H locs ls hP hS h0 => lv_iadd X.1.1 X.1.2.1 hd (k H locs ls hP hS h0)
theorem l_isub (X : LX p s m meth c w b L cells slots xs) {x y : Int32} (hd : decode code pc = .ok (.isub, 1)) (k : GL p l e s m below meth c w b cells slots (pc + 1) lv (.int (x - y) :: st) h) : GL p l e s m below meth c w b cells slots pc lv (.int y :: .int x :: st) h := fun H locs ls hP hS h0 => lv_isub X.1.1 X.1.2.1 hd (k H locs ls hP hS h0)
theorem l_iand (X : LX p s m meth c w b L cells slots xs) {x y : Int32} (hd : decode code pc = .ok (.iand, 1)) (k : GL p l e s m below meth c w b cells slots (pc + 1) lv (.int (x &&& y) :: st) h) : GL p l e s m below meth c w b cells slots pc lv (.int y :: .int x :: st) h := fun H locs ls hP hS h0 => lv_iand X.1.1 X.1.2.1 hd (k H locs ls hP hS h0)
theorem l_iconst (X : LX p s m meth c w b L cells slots xs) {n : Int} {v : Int32} (hd : decode code pc = .ok (.iconst n, 1)) (hv : Int32.ofInt n = v) (k : GL p l e s m below meth c w b cells slots (pc + 1) lv (.int v :: st) h) : GL p l e s m below meth c w b cells slots pc lv (st) h := fun H locs ls hP hS h0 => lv_iconst X.1.1 X.1.2.1 hd hv (k H locs ls hP hS h0)
theorem l_bipush (X : LX p s m meth c w b L cells slots xs) {n : Int} {v : Int32} (hd : decode code pc = .ok (.bipush n, 2)) (hv : (Int8.ofInt n).toInt32 = v) (k : GL p l e s m below meth c w b cells slots (pc + 2) lv (.int v :: st) h) : GL p l e s m below meth c w b cells slots pc lv (st) h := fun H locs ls hP hS h0 => lv_bipush X.1.1 X.1.2.1 hd hv (k H locs ls hP hS h0)
theorem l_lcmp (X : LX p s m meth c w b L cells slots xs) {x y : Int64} (hd : decode code pc = .ok (.lcmp, 1)) (k : GL p l e s m below meth c w b cells slots (pc + 1) lv (.int (lg_cmp x y) :: st) h) : GL p l e s m below meth c w b cells slots pc lv (.long y :: .long x :: st) h := fun H locs ls hP hS h0 => W.lcmp X.1.1 X.1.2.1 hd (k H locs ls hP hS h0)
theorem l_iload_n (X : LX p s m meth c w b L cells slots xs) (k0 : Nat) {j : Fin 4} {i : Nat} {x : Int32} (hl : lv[k0]? = some (i, .int x)) (hd : decode code pc = .ok (.iload_n j, 1)) (hi : (j : Nat) = i) (k : GL p l e s m below meth c w b cells slots (pc + 1) lv (.int x :: st) h) : GL p l e s m below meth c w b cells slots pc lv st h := fun H locs ls hP hS h0 => lv_iload_n X.1.1 X.1.2.1 hd hi (lv_at h0 k0 hl) (k H locs ls hP hS h0)
theorem l_aload_n (X : LX p s m meth c w b L cells slots xs) (k0 : Nat) {j : Fin 4} {i : Nat} {x : Nat} (hl : lv[k0]? = some (i, .ref x)) (hd : decode code pc = .ok (.aload_n j, 1)) (hi : (j : Nat) = i) (k : GL p l e s m below meth c w b cells slots (pc + 1) lv (.ref x :: st) h) : GL p l e s m below meth c w b cells slots pc lv st h := fun H locs ls hP hS h0 => lv_aload_n X.1.1 X.1.2.1 hd hi (lv_at h0 k0 hl) (k H locs ls hP hS h0)
theorem l_iinc (X : LX p s m meth c w b L cells slots xs) (k0 : Nat) {i : Nat} {n : Int} {x v : Int32} (hl0 : lv[k0]? = some (i, .int x)) (hd : decode code pc = .ok (.iinc i n, 3)) (hv : x + Int32.ofInt n = v) (hn : i < 4) (hl : (i, Value.int v) :: lv.filter (fun q => !(q.1 == i) && !(q.1 + 1 == i && q.2.category == 2)) = lv') (k : GL p l e s m below meth c w b cells slots (pc + 3) lv' st h) : GL p l e s m below meth c w b cells slots pc lv st h := fun H locs ls hP hS h0 => lv_iinc X.1.1 X.1.2.1 hd h0 hl0 hv hn hl (fun ls2 h2 => k H locs ls2 hP hS h2)
theorem l_lv (ks : List Nat) (hl : lv_pick lv ks = lv') (k : GL p l e s m below meth c w b cells slots pc lv' st h) : GL p l e s m below meth c w b cells slots pc lv st h := fun H locs ls hP hS h0 => k H locs ls hP hS (lv_sub h0 ks hl)
theorem l_goto (X : LX p s m meth c w b L cells slots xs) {off : Int} {tgt : Nat} (hd : decode code pc = .ok (.goto off, 3)) (ht : (pc : Int) + off = (tgt : Int)) (k : GL p l e s m below meth c w b cells slots tgt lv st h) : GL p l e s m below meth c w b cells slots pc lv st h := fun H locs ls hP hS h0 => lv_goto X.1.1 X.1.2.1 hd ht (k H locs ls hP hS h0)
theorem l_gt (X : LX p s m meth c w b L cells slots xs) {x y : Int32} {off : Int} {tgt : Nat} (hd : decode code pc = .ok (.if_icmp .gt off, 3)) (ht : (pc : Int) + off = (tgt : Int)) (ka : y < x → GL p l e s m below meth c w b cells slots tgt lv st h) (kb : ¬ y < x → GL p l e s m below meth c w b cells slots (pc + 3) lv st h) : GL p l e s m below meth c w b cells slots pc lv (.int y :: .int x :: st) h := fun H locs ls hP hS h0 => lv_icmp_gt X.1.1 X.1.2.1 hd ht (fun hc => ka hc H locs ls hP hS h0) (fun hc => kb hc H locs ls hP hS h0)
theorem l_eq (X : LX p s m meth c w b L cells slots xs) {x y : Int32} {off : Int} {tgt : Nat} (hd : decode code pc = .ok (.if_icmp .eq off, 3)) (ht : (pc : Int) + off = (tgt : Int)) (hxy : x = y) (ka : GL p l e s m below meth c w b cells slots tgt lv st h) : GL p l e s m below meth c w b cells slots pc lv (.int y :: .int x :: st) h := fun H locs ls hP hS h0 => lv_icmp_eq X.1.1 X.1.2.1 hd ht (fun hc => ka H locs ls hP hS h0) (fun hc => absurd hxy hc)
theorem l_if0 (X : LX p s m meth c w b L cells slots xs) {x : Int32} {off : Int} {tgt : Nat} (hd : decode code pc = .ok (.ifCond .eq off, 3)) (ht : (pc : Int) + off = (tgt : Int)) (hx : x = 0) (ka : GL p l e s m below meth c w b cells slots tgt lv st h) : GL p l e s m below meth c w b cells slots pc lv (.int x :: st) h := fun H locs ls hP hS h0 => lv_if_eq X.1.1 X.1.2.1 hd ht (fun hc => ka H locs ls hP hS h0) (fun hc => absurd hx hc)
theorem l_if1 (X : LX p s m meth c w b L cells slots xs) {x : Int32} {off : Int} {tgt : Nat} (hd : decode code pc = .ok (.ifCond .eq off, 3)) (ht : (pc : Int) + off = (tgt : Int)) (hx : ¬ x = 0) (ka : GL p l e s m below meth c w b cells slots (pc + 3) lv st h) : GL p l e s m below meth c w b cells slots pc lv (.int x :: st) h := fun H locs ls hP hS h0 => lv_if_eq X.1.1 X.1.2.1 hd ht (fun hc => absurd hc hx) (fun hc => ka H locs ls hP hS h0)
theorem l_sld (X : LX p s m meth c w b L cells slots xs) {i : Int32} (hin : vp_in i L) (hd : decode code pc = .ok (.iaload, 1)) (k : GL p l e s m below meth c w b cells slots (pc + 1) lv (.int (xs i.toNatClampNeg) :: st) h) : GL p l e s m below meth c w b cells slots pc lv (.int i :: .ref b :: st) h := fun H locs ls hP hS h0 => va_sld X.1.1 X.1.2.1 X.1.2.2.2.2.2.2.1 X.1.2.2.2.2.2.2.2.1 (Nat.not_le.mpr X.1.2.2.2.2.2.2.2.1) hS hin hd (k H locs ls hP hS h0)
theorem l_slen (X : LX p s m meth c w b L cells slots xs) (hd : decode code pc = .ok (.arraylength, 1)) (k : GL p l e s m below meth c w b cells slots (pc + 1) lv (.int (nI L) :: st) h) : GL p l e s m below meth c w b cells slots pc lv (.ref b :: st) h := fun H locs ls hP hS h0 => va_slen X.1.1 X.1.2.1 X.1.2.2.2.2.2.2.1 X.1.2.2.2.2.2.2.2.1 (Nat.not_le.mpr X.1.2.2.2.2.2.2.2.1) hS hd (k H locs ls hP hS h0)
theorem l_tabIn (X : LX p s m meth c w b L cells slots xs) {dflt a b1 : Int} {offs : Array Int} {len tgt : Nat} {x v : Int32} {off : Int} (hd : decode code pc = .ok (.tableswitch dflt a b1 offs, len)) (hv : x = v) (h1 : ¬ v.toInt < a) (h2 : ¬ b1 < v.toInt) (ho : offs[(v.toInt - a).toNat]? = some off) (ht : (pc : Int) + off = (tgt : Int)) (k : GL p l e s m below meth c w b cells slots tgt lv st h) : GL p l e s m below meth c w b cells slots pc lv (.int x :: st) h := fun H locs ls hP hS h0 => by
  subst hv
  exact lv_tableIn X.1.1 X.1.2.1 hd h1 h2 ho ht (k H locs ls hP hS h0)
theorem l_tabOut (X : LX p s m meth c w b L cells slots xs) {dflt a b1 : Int} {offs : Array Int} {len tgt : Nat} {x : Int32} (hd : decode code pc = .ok (.tableswitch dflt a b1 offs, len)) (hv : x.toInt < a ∨ b1 < x.toInt) (ht : (pc : Int) + dflt = (tgt : Int)) (k : GL p l e s m below meth c w b cells slots tgt lv st h) : GL p l e s m below meth c w b cells slots pc lv (.int x :: st) h := fun H locs ls hP hS h0 => lv_tableOut X.1.1 X.1.2.1 hd hv ht (k H locs ls hP hS h0)
theorem l_ret (X : LX p s m meth c w b L cells slots xs) (hd : decode code pc = .ok (.ireturn, 1)) : GL p l e s m below meth c w b cells slots pc lv [.int 1] h := fun H locs ls hP hS h0 => by
  refine va_forget (fun q hq => hS.2.2 q hq) ?_
  refine W.widen (k := 600000) (n := 7302250) X.2.2.2.2.1 X.2.2.2.2.2 ?_
  exact lw_ret X.1.1 X.1.2.1 X.1.2.2.1 X.1.2.2.2.2.2.2.2.2.1 hd
theorem l_call {x1 : Option Value × TT} {y : MethodName} {bytes : ByteArray} {maxL n idx i ci fr1 lo1 : Nat} {ret : Option FieldType} {As rest : List Value} {fs : (Nat → Int32) → (Nat → Int64) → List Value} {T0 : u_T} {N0 : Nat} (X : LX p s m meth c w b L cells slots xs) (hm : MV RL idx y bytes maxL ret n) (hM : Met l y (Cond.code y bytes maxL ret :: wsG) { frames := fr1, cells := 0, slots := 0, locals := lo1 } (PG w (.ref (w.2.1 i) :: As) h) (QG w x1) 0 0 (AA w)) (hs : SO w i ci fs) (hc : vwCl[ci]? = some (y.cls, T0, N0)) (hroom : fr1 + 1 ≤ 15 ∧ 8 + (maxL + 11) + lo1 ≤ 586) (hn : As.length = n) {st0 : List Value} (hst : st0 = As.reverse ++ .ref (w.2.1 i) :: rest) (hw : (rest.map fun v => v.category).sum ≤ 8) (hd : decode code pc = .ok (.invokevirtual idx, 3)) (k : GL p l e s m below meth c w b cells slots (pc + 3) lv (x1.1.toList ++ rest) x1.2) : GL p l e s m below meth c w b cells slots pc lv st0 h := fun H locs ls hP hS h0 => by
  subst hst
  obtain ⟨m1, m2, m3, m4, m5, m6⟩ := hm
  have hws := lx_ws X.1
  have hq : ∀ a : Nat, a < s.heap.size → ¬ AA w a → H[a]? = s.heap[a]? := fun a h1 h2 => hS.2.1 a h1 (Nat.not_le.mpr h1)
  have hr := va_runV (R := room_1) (e := e) (below := below) (meth := meth) (locs := locs) (cells := cells) (slots := slots) (H := H) (g := F0 m pc ls (As.reverse ++ .ref (w.2.1 i) :: rest)) (rest := rest) ⟨X.1.1, X.1.2.1, X.1.2.2.2.1, X.1.2.2.2.2.1, hws⟩ hM ⟨callB_of n hws (goodG m5) rfl rfl rfl (hws _ m4) (hws _ m1) m6 hroom, hws _ m2, hws _ m3⟩ ⟨PG.blind, va_recv X.2.1.1 hP (ci := ci) (q0 := i) hc (by rw [wl_at hs.1, hs.2]), fun U hU hW => ⟨rfl, by rw [hU]; exact hP, KS.go X.2.1 hW (by rw [hU]; exact hS.1) (fun a h1 h2 => by rw [hU]; exact hq a h1 h2)⟩⟩ rfl hn h0.1 rfl (lv_room hw) hd ⟨X.2.2.2.2.1, X.2.2.2.2.2⟩
  intro T hT XX
  obtain ⟨v, st₀, t, T', L1, e0, X', hL, e1, e2, ⟨⟨hv, hP2, hK2⟩, hz, hk⟩, stp⟩ := hr T hT XX
  cases hv
  rw [e0] at hz hk
  have hS2 : va_S (fun q => s.heap.size ≤ q) s.heap T'.heap (locs ++ L1) := ⟨Nat.le_trans hS.1 (by rw [e1]; exact hz), fun q h1 h2 => by rw [e1, hk q (Nat.lt_of_lt_of_le h1 hS.1) (fun z => h2 (X.2.2.1 q z))]; exact hS.2.1 q h1 h2, fun q hq => by
      rcases List.mem_append.mp hq with h | h
      · exact hS.2.2 q h
      · exact X.2.2.1 _ (hL q h)⟩
  obtain ⟨t2, a1, b1⟩ := k T'.heap (locs ++ L1) ls (by rw [e1]; exact hP2) hS2 h0 T' rfl X'
  exact ⟨t2, stp t2 a1, b1⟩
end LAWS
def ST_row (Inv : TT → Prop) : Prop := ∀ h, Inv h → ∀ (x1 : Int32) (x2 : Int32), ∃ (r : Int32) (h1 : TT) (h2 : TT), f_X7_row h x1 x2 = some (r, h1) ∧ f_X8_row h1 x1 x2 = some (r, h2) ∧ Inv h2
def ST_lay (Inv : TT → Prop) : Prop := ∀ h, Inv h → ∀ (x1 : Int32) (x2 : Int32) (x3 : Int32), ∃ (r : Int32) (h1 : TT) (h2 : TT), f_X7_lay h x1 x2 x3 = some (r, h1) ∧ f_X8_lay h1 x1 x2 x3 = some (r, h2) ∧ Inv h2
def ST_at (Inv : TT → Prop) : Prop := ∀ h, Inv h → ∀ (x1 : Int32) (x2 : Int32), ∃ (r : Int32) (h1 : TT) (h2 : TT), f_X7_at h x1 x2 = some (r, h1) ∧ f_X8_at h1 x1 x2 = some (r, h2) ∧ Inv h2
def ST_tear (Inv : TT → Prop) : Prop := ∀ h, Inv h → ∀ (x1 : Int32), ∃ (r : Int32) (h1 : TT) (h2 : TT), f_X7_tear h x1 = some (r, h1) ∧ f_X8_tear h1 x1 = some (r, h2) ∧ Inv h2
def ST_copy (Inv : TT → Prop) : Prop := ∀ h, Inv h → ∀ (x1 : Int32) (x2 : Int32) (x3 : Int32) (x4 : Int32) (x5 : Int32), ∃ (r : Int32) (h1 : TT) (h2 : TT), f_X7_copy h x1 x2 x3 x4 x5 = some (r, h1) ∧ f_X8_copy h1 x1 x2 x3 x4 x5 = some (r, h2) ∧ Inv h2
def ST_mean (Inv : TT → Prop) : Prop := ∀ h, Inv h → ∀ (x1 : Int32), ∃ (r : Int32) (h1 : TT) (h2 : TT), f_X7_mean h x1 = some (r, h1) ∧ f_X8_mean h1 x1 = some (r, h2) ∧ Inv h2
def ST_text (Inv : TT → Prop) : Prop := ∀ h, Inv h → ∀ (x1 : Int32) (x2 : Int32), ∃ (r : Int32) (h1 : TT) (h2 : TT), f_X7_text h x1 x2 = some (r, h1) ∧ f_X8_text h1 x1 x2 = some (r, h2) ∧ Inv h2
def ST_put (Inv : TT → Prop) : Prop := ∀ h, Inv h → ∀ (x1 : Int32) (x2 : Int32) (x3 : Int32), ∃ (r : Int32) (h1 : TT) (h2 : TT), f_X7_put h x1 x2 x3 = some (r, h1) ∧ f_X8_put h1 x1 x2 x3 = some (r, h2) ∧ Inv h2
def ST_fault (Inv : TT → Prop) : Prop := ∀ h, Inv h → ∀ (x1 : Int32) (x2 : Int32), (x2 = 0 ∨ x2 = 1) → ∃ (r : Int32) (h1 : TT) (h2 : TT), f_X7_fault h x1 x2 = some (r, h1) ∧ f_X8_fault h1 x1 x2 = some (r, h2) ∧ Inv h2
def ST_snow (Inv : TT → Prop) : Prop := ∀ h, Inv h → ∀ (x1 : Int32) (x2 : Int32), ∃ (r : Int32) (h1 : TT) (h2 : TT), f_X7_snow h x1 x2 = some (r, h1) ∧ f_X8_snow h1 x1 x2 = some (r, h2) ∧ Inv h2
def ST_plan (Inv : TT → Prop) : Prop := ∀ h, Inv h → ∀ (x1 : Int32) (x2 : Int32), ∃ (r : Int32) (h1 : TT) (h2 : TT), f_X7_plan h x1 x2 = some (r, h1) ∧ f_X8_plan h1 x1 x2 = some (r, h2) ∧ Inv h2
def ST_about (Inv : TT → Prop) : Prop := ∀ h, Inv h → ∀ (x1 : Int32) (x2 : Int32), ∃ (r : Int32) (h1 : TT) (h2 : TT), f_X7_about h x1 x2 = some (r, h1) ∧ f_X8_about h1 x1 x2 = some (r, h2) ∧ Inv h2
def ST_tells (Inv : TT → Prop) : Prop := ∀ h, Inv h → ∀ (x1 : Int32) (x2 : Int32), ∃ (r : Int32) (h1 : TT) (h2 : TT), f_X7_tells h x1 x2 = some (r, h1) ∧ f_X8_tells h1 x1 x2 = some (r, h2) ∧ Inv h2
def ST_course (Inv : TT → Prop) : Prop := ∀ h, Inv h → ∀ (x1 : Int32) (x2 : Int32), ∃ (r : Int32) (h1 : TT) (h2 : TT), f_X7_course h x1 x2 = some (r, h1) ∧ f_X8_course h1 x1 x2 = some (r, h2) ∧ Inv h2
def ST_house (Inv : TT → Prop) : Prop := ∀ h, Inv h → ∀ (x1 : Int32) (x2 : Int32) (x3 : Int32), ∃ (r : Int32) (h1 : TT) (h2 : TT), f_X7_house h x1 x2 x3 = some (r, h1) ∧ f_X8_house h1 x1 x2 x3 = some (r, h2) ∧ Inv h2
def ST_go (Inv : TT → Prop) : Prop := ∀ h, Inv h → ∀ (x1 : Int32), ∃ (r : Int32) (h1 : TT) (h2 : TT), f_X7_go h x1 = some (r, h1) ∧ f_X8_go h1 x1 = some (r, h2) ∧ Inv h2
def ST_block (Inv : TT → Prop) : Prop := ∀ h, Inv h → ∀ (x1 : Int32) (x2 : Int32), ∃ (r : Int32) (h1 : TT) (h2 : TT), f_X7_block h x1 x2 = some (r, h1) ∧ f_X8_block h1 x1 x2 = some (r, h2) ∧ Inv h2
def ST_pull (Inv : TT → Prop) : Prop := ∀ h, Inv h → ∀ (x1 : Int32), ∃ (r : Int32) (h1 : TT) (h2 : TT), f_X7_pull h x1 = some (r, h1) ∧ f_X8_pull h1 x1 = some (r, h2) ∧ Inv h2
def ST_mark (Inv : TT → Prop) : Prop := ∀ h, Inv h → ∀ (x1 : Int32) (x2 : Int32), ∃ (r : Int32) (h1 : TT) (h2 : TT), f_X7_mark h x1 x2 = some (r, h1) ∧ f_X8_mark h1 x1 x2 = some (r, h2) ∧ Inv h2
def ST_door (Inv : TT → Prop) : Prop := ∀ h, Inv h → ∀ (x1 : Int32), ∃ (r : Int32) (h1 : TT) (h2 : TT), f_X7_door h x1 = some (r, h1) ∧ f_X8_door h1 x1 = some (r, h2) ∧ Inv h2
def ST_keep (Inv : TT → Prop) : Prop := ∀ h, Inv h → ∀ (x1 : Int32), ∃ (r : Int32) (h1 : TT) (h2 : TT), f_X7_keep h x1 = some (r, h1) ∧ f_X8_keep h1 x1 = some (r, h2) ∧ Inv h2
def ST_on (Inv : TT → Prop) : Prop := ∀ h, Inv h → ∀ (x1 : Int32), ∃ (r : Int32) (h1 : TT) (h2 : TT), f_X7_on h x1 = some (r, h1) ∧ f_X8_on h1 x1 = some (r, h2) ∧ Inv h2
def ST_slumped (Inv : TT → Prop) : Prop := ∀ h, Inv h → ∃ (r : Int32) (h1 : TT) (h2 : TT), f_X7_slumped h  = some (r, h1) ∧ f_X8_slumped h1  = some (r, h2) ∧ Inv h2
def ST_falls (Inv : TT → Prop) : Prop := ∀ h, Inv h → ∃ (r : Int32) (h1 : TT) (h2 : TT), f_X7_falls h  = some (r, h1) ∧ f_X8_falls h1  = some (r, h2) ∧ Inv h2
def ST_pace (Inv : TT → Prop) : Prop := ∀ h, Inv h → ∀ (x1 : Int32), ∃ (r : Int32) (h1 : TT) (h2 : TT), f_X7_pace h x1 = some (r, h1) ∧ f_X8_pace h1 x1 = some (r, h2) ∧ Inv h2
def ST_lean (Inv : TT → Prop) : Prop := ∀ h, Inv h → ∀ (x1 : Int32), ∃ (r : Int32) (h1 : TT) (h2 : TT), f_X7_lean h x1 = some (r, h1) ∧ f_X8_lean h1 x1 = some (r, h2) ∧ Inv h2
def ST_slow (Inv : TT → Prop) : Prop := ∀ h, Inv h → ∃ (r : Int32) (h1 : TT) (h2 : TT), f_X7_slow h  = some (r, h1) ∧ f_X8_slow h1  = some (r, h2) ∧ Inv h2
def ST_spiral (Inv : TT → Prop) : Prop := ∀ h, Inv h → ∃ (r : Int32) (h1 : TT) (h2 : TT), f_X7_spiral h  = some (r, h1) ∧ f_X8_spiral h1  = some (r, h2) ∧ Inv h2
def ST_fell (Inv : TT → Prop) : Prop := ∀ h, Inv h → ∀ (x1 : Int32), ∃ (r : Int32) (h1 : TT) (h2 : TT), f_X7_fell h x1 = some (r, h1) ∧ f_X8_fell h1 x1 = some (r, h2) ∧ Inv h2
def ST_odds (Inv : TT → Prop) : Prop := ∀ h, Inv h → ∃ (r : Int32) (h1 : TT) (h2 : TT), f_X7_odds h  = some (r, h1) ∧ f_X8_odds h1  = some (r, h2) ∧ Inv h2
def ST_storm (Inv : TT → Prop) : Prop := ∀ h, Inv h → ∀ (x1 : Int32) (x2 : Int32) (x3 : Int32) (x4 : Int32), ∃ (r : Int32) (h1 : TT) (h2 : TT), f_X7_storm h x1 x2 x3 x4 = some (r, h1) ∧ f_X8_storm h1 x1 x2 x3 x4 = some (r, h2) ∧ Inv h2
def ST_halls (Inv : TT → Prop) : Prop := ∀ h, Inv h → ∀ (x1 : Int32) (x2 : Int32) (x3 : Int32), ∃ (r : Int32) (h1 : TT) (h2 : TT), f_X7_halls h x1 x2 x3 = some (r, h1) ∧ f_X8_halls h1 x1 x2 x3 = some (r, h2) ∧ Inv h2
def ST_quarry (Inv : TT → Prop) : Prop := ∀ h, Inv h → ∀ (x1 : Int32), ∃ (r : Int32) (h1 : TT) (h2 : TT), f_X7_quarry h x1 = some (r, h1) ∧ f_X8_quarry h1 x1 = some (r, h2) ∧ Inv h2
def ST_air (Inv : TT → Prop) : Prop := ∀ h, Inv h → ∀ (x1 : Int32) (x2 : Int32) (x3 : Int32) (x4 : Int32) (x5 : Int32) (x6 : Int32), ∃ (r : Int32) (h1 : TT) (h2 : TT), f_X7_air h x1 x2 x3 x4 x5 x6 = some (r, h1) ∧ f_X8_air h1 x1 x2 x3 x4 x5 x6 = some (r, h2) ∧ Inv h2
def ST_layer (Inv : TT → Prop) : Prop := ∀ h, Inv h → ∀ (x1 : Int32) (x2 : Int32) (x3 : Int32) (x4 : Int32) (x5 : Int32) (x6 : Int32), ∃ (r : Int32) (h1 : TT) (h2 : TT), f_X7_layer h x1 x2 x3 x4 x5 x6 = some (r, h1) ∧ f_X8_layer h1 x1 x2 x3 x4 x5 x6 = some (r, h2) ∧ Inv h2
def ST_hole (Inv : TT → Prop) : Prop := ∀ h, Inv h → ∀ (x1 : Int32) (x2 : Int32) (x3 : Int32), ∃ (r : Int32) (h1 : TT) (h2 : TT), f_X7_hole h x1 x2 x3 = some (r, h1) ∧ f_X8_hole h1 x1 x2 x3 = some (r, h2) ∧ Inv h2
def ST_drips (Inv : TT → Prop) : Prop := ∀ h, Inv h → ∀ (x1 : Int32) (x2 : Int32) (x3 : Int32), ∃ (r : Int32) (h1 : TT) (h2 : TT), f_X7_drips h x1 x2 x3 = some (r, h1) ∧ f_X8_drips h1 x1 x2 x3 = some (r, h2) ∧ Inv h2
def ST_lasts (Inv : TT → Prop) : Prop := ∀ h, Inv h → ∀ (x1 : Int32) (x2 : Int32) (x3 : Int32), ∃ (r : Int32) (h1 : TT) (h2 : TT), f_X7_lasts h x1 x2 x3 = some (r, h1) ∧ f_X8_lasts h1 x1 x2 x3 = some (r, h2) ∧ Inv h2
def ST_scrape (Inv : TT → Prop) : Prop := ∀ h, Inv h → ∀ (x1 : Int32) (x2 : Int32), ∃ (r : Int32) (h1 : TT) (h2 : TT), f_X7_scrape h x1 x2 = some (r, h1) ∧ f_X8_scrape h1 x1 x2 = some (r, h2) ∧ Inv h2
def ST_asked (Inv : TT → Prop) : Prop := ∀ h, Inv h → ∃ (r : Int32), f_X7_asked h  = some r ∧ f_X8_asked h  = some r ∧ Inv h
def ST_upper (Inv : TT → Prop) : Prop := ∀ h, Inv h → ∃ (r : Int64), f_X7_upper h  = some r ∧ f_X8_upper h  = some r ∧ Inv h
def ST_lower (Inv : TT → Prop) : Prop := ∀ h, Inv h → ∃ (r : Int64), f_X7_lower h  = some r ∧ f_X8_lower h  = some r ∧ Inv h
def ST_count (Inv : TT → Prop) : Prop := ∀ h, Inv h → ∀ (x1 : Int32), ∃ (r : Int32) (h2 : TT), f_X7_count h x1 = some r ∧ f_X8_count h x1 = some (r, h2) ∧ Inv h2
def ST_finding (Inv : TT → Prop) : Prop := ∀ h, Inv h → ∃ (r : Int32), f_X7_finding h  = some r ∧ f_X8_finding h  = some r ∧ Inv h
def ST_findings (Inv : TT → Prop) : Prop := ∀ h, Inv h → ∀ (x1 : Int32), ∃ (r : Int32), f_X7_findings h x1 = some r ∧ f_X8_findings h x1 = some r ∧ Inv h
def ST_digest (Inv : TT → Prop) : Prop := ∀ h, Inv h → ∃ (r : Int64) (h2 : TT), f_X7_digest h  = some r ∧ f_X8_digest h  = some (r, h2) ∧ Inv h2
def STEPS (Inv : TT → Prop) : Prop := ST_row Inv ∧ ST_lay Inv ∧ ST_at Inv ∧ ST_tear Inv ∧ ST_copy Inv ∧ ST_mean Inv ∧ ST_text Inv ∧ ST_put Inv ∧ ST_fault Inv ∧ ST_snow Inv ∧ ST_plan Inv ∧ ST_about Inv ∧ ST_tells Inv ∧ ST_course Inv ∧ ST_house Inv ∧ ST_go Inv ∧ ST_block Inv ∧ ST_pull Inv ∧ ST_mark Inv ∧ ST_door Inv ∧ ST_keep Inv ∧ ST_on Inv ∧ ST_slumped Inv ∧ ST_falls Inv ∧ ST_pace Inv ∧ ST_lean Inv ∧ ST_slow Inv ∧ ST_spiral Inv ∧ ST_fell Inv ∧ ST_odds Inv ∧ ST_storm Inv ∧ ST_halls Inv ∧ ST_quarry Inv ∧ ST_air Inv ∧ ST_layer Inv ∧ ST_hole Inv ∧ ST_drips Inv ∧ ST_lasts Inv ∧ ST_scrape Inv ∧ ST_asked Inv ∧ ST_upper Inv ∧ ST_lower Inv ∧ ST_count Inv ∧ ST_finding Inv ∧ ST_findings Inv ∧ ST_digest Inv
theorem lg_self {x : Int64} : lg_cmp x x = 0 := by simp [lg_cmp]
theorem in_k {i L : Nat} (hi : i + 7 ≤ L) (hL : L ≤ 3584) (k : Int32) {kn : Nat} (hk : k = nI kn) (h7 : kn < 7) : vp_in (nI i + k) L := by
  rw [hk, nI_add]
  exact vp_in_nI (by omega) (by omega)
theorem kn_1 : (1 : Int32) = nI 1 := by decide
theorem kn_2 : (2 : Int32) = nI 2 := by decide
theorem kn_3 : (3 : Int32) = nI 3 := by decide
theorem kn_4 : (4 : Int32) = nI 4 := by decide
theorem kn_5 : (5 : Int32) = nI 5 := by decide
theorem kn_6 : (6 : Int32) = nI 6 := by decide
theorem wc_X7_row : Cond.code yX7_row cX7_row 3 (some .int) ∈ wsG := List.mem_filter.mpr ⟨List.mem_append_right _ (List.mem_append_right _ (List.mem_append_left _ (List.mem_of_getElem? (i := 72) rfl))), rfl⟩
theorem wi_X7_row : Cond.instanceMethod yX7_row ∈ wsG := List.mem_filter.mpr ⟨List.mem_append_right _ (List.mem_append_right _ (List.mem_append_left _ (List.mem_of_getElem? (i := 70) rfl))), rfl⟩
theorem wv_X7_row : Cond.selects yX7_row.cls yX7_row yX7_row ∈ wsG := List.mem_filter.mpr ⟨List.mem_append_right _ (List.mem_append_right _ (List.mem_append_left _ (List.mem_of_getElem? (i := 71) rfl))), rfl⟩
theorem mv_RL_13 : MV RL 13 yX7_row cX7_row 3 (some .int) 2 := ⟨List.mem_filter.mpr ⟨List.mem_append_right _ (List.mem_append_right _ (List.mem_append_left _ (List.mem_of_getElem? (i := 69) rfl))), rfl⟩, wi_X7_row, wv_X7_row, wn_RX7, wc_X7_row, by decide +kernel⟩
theorem wc_X8_row : Cond.code yX8_row cX8_row 4 (some .int) ∈ wsG := List.mem_filter.mpr ⟨List.mem_append_right _ (List.mem_append_right _ (List.mem_append_right _ (List.mem_append_right _ (List.mem_append_left _ (List.mem_of_getElem? (i := 237) rfl))))), rfl⟩
theorem wi_X8_row : Cond.instanceMethod yX8_row ∈ wsG := List.mem_filter.mpr ⟨List.mem_append_right _ (List.mem_append_right _ (List.mem_append_right _ (List.mem_append_right _ (List.mem_append_left _ (List.mem_of_getElem? (i := 235) rfl))))), rfl⟩
theorem wv_X8_row : Cond.selects yX8_row.cls yX8_row yX8_row ∈ wsG := List.mem_filter.mpr ⟨List.mem_append_right _ (List.mem_append_right _ (List.mem_append_right _ (List.mem_append_right _ (List.mem_append_left _ (List.mem_of_getElem? (i := 236) rfl))))), rfl⟩
theorem mv_RL_17 : MV RL 17 yX8_row cX8_row 4 (some .int) 2 := ⟨List.mem_filter.mpr ⟨List.mem_append_right _ (List.mem_append_right _ (List.mem_append_right _ (List.mem_append_right _ (List.mem_append_left _ (List.mem_of_getElem? (i := 234) rfl))))), rfl⟩, wi_X8_row, wv_X8_row, wn_RX8, wc_X8_row, by decide +kernel⟩
theorem wc_X7_lay : Cond.code yX7_lay cX7_lay 5 (some .int) ∈ wsG := List.mem_filter.mpr ⟨List.mem_append_right _ (List.mem_append_right _ (List.mem_append_left _ (List.mem_of_getElem? (i := 86) rfl))), rfl⟩
theorem wi_X7_lay : Cond.instanceMethod yX7_lay ∈ wsG := List.mem_filter.mpr ⟨List.mem_append_right _ (List.mem_append_right _ (List.mem_append_left _ (List.mem_of_getElem? (i := 84) rfl))), rfl⟩
theorem wv_X7_lay : Cond.selects yX7_lay.cls yX7_lay yX7_lay ∈ wsG := List.mem_filter.mpr ⟨List.mem_append_right _ (List.mem_append_right _ (List.mem_append_left _ (List.mem_of_getElem? (i := 85) rfl))), rfl⟩
theorem mv_RL_18 : MV RL 18 yX7_lay cX7_lay 5 (some .int) 3 := ⟨List.mem_filter.mpr ⟨List.mem_append_right _ (List.mem_append_right _ (List.mem_append_left _ (List.mem_of_getElem? (i := 83) rfl))), rfl⟩, wi_X7_lay, wv_X7_lay, wn_RX7, wc_X7_lay, by decide +kernel⟩
theorem wc_X8_lay : Cond.code yX8_lay cX8_lay 5 (some .int) ∈ wsG := List.mem_filter.mpr ⟨List.mem_append_right _ (List.mem_append_right _ (List.mem_append_right _ (List.mem_append_right _ (List.mem_append_right _ (List.mem_append_left _ (List.mem_of_getElem? (i := 8) rfl)))))), rfl⟩
theorem wi_X8_lay : Cond.instanceMethod yX8_lay ∈ wsG := List.mem_filter.mpr ⟨List.mem_append_right _ (List.mem_append_right _ (List.mem_append_right _ (List.mem_append_right _ (List.mem_append_right _ (List.mem_append_left _ (List.mem_of_getElem? (i := 6) rfl)))))), rfl⟩
theorem wv_X8_lay : Cond.selects yX8_lay.cls yX8_lay yX8_lay ∈ wsG := List.mem_filter.mpr ⟨List.mem_append_right _ (List.mem_append_right _ (List.mem_append_right _ (List.mem_append_right _ (List.mem_append_right _ (List.mem_append_left _ (List.mem_of_getElem? (i := 7) rfl)))))), rfl⟩
theorem mv_RL_22 : MV RL 22 yX8_lay cX8_lay 5 (some .int) 3 := ⟨List.mem_filter.mpr ⟨List.mem_append_right _ (List.mem_append_right _ (List.mem_append_right _ (List.mem_append_right _ (List.mem_append_right _ (List.mem_append_left _ (List.mem_of_getElem? (i := 5) rfl)))))), rfl⟩, wi_X8_lay, wv_X8_lay, wn_RX8, wc_X8_lay, by decide +kernel⟩
theorem wc_X7_at : Cond.code yX7_at cX7_at 3 (some .int) ∈ wsG := List.mem_filter.mpr ⟨List.mem_append_right _ (List.mem_append_right _ (List.mem_append_left _ (List.mem_of_getElem? (i := 94) rfl))), rfl⟩
theorem wi_X7_at : Cond.instanceMethod yX7_at ∈ wsG := List.mem_filter.mpr ⟨List.mem_append_right _ (List.mem_append_right _ (List.mem_append_left _ (List.mem_of_getElem? (i := 92) rfl))), rfl⟩
theorem wv_X7_at : Cond.selects yX7_at.cls yX7_at yX7_at ∈ wsG := List.mem_filter.mpr ⟨List.mem_append_right _ (List.mem_append_right _ (List.mem_append_left _ (List.mem_of_getElem? (i := 93) rfl))), rfl⟩
theorem mv_RL_23 : MV RL 23 yX7_at cX7_at 3 (some .int) 2 := ⟨List.mem_filter.mpr ⟨List.mem_append_right _ (List.mem_append_right _ (List.mem_append_left _ (List.mem_of_getElem? (i := 91) rfl))), rfl⟩, wi_X7_at, wv_X7_at, wn_RX7, wc_X7_at, by decide +kernel⟩
theorem wc_X8_at : Cond.code yX8_at cX8_at 3 (some .int) ∈ wsG := List.mem_filter.mpr ⟨List.mem_append_right _ (List.mem_append_right _ (List.mem_append_right _ (List.mem_append_right _ (List.mem_append_right _ (List.mem_append_left _ (List.mem_of_getElem? (i := 20) rfl)))))), rfl⟩
theorem wi_X8_at : Cond.instanceMethod yX8_at ∈ wsG := List.mem_filter.mpr ⟨List.mem_append_right _ (List.mem_append_right _ (List.mem_append_right _ (List.mem_append_right _ (List.mem_append_right _ (List.mem_append_left _ (List.mem_of_getElem? (i := 18) rfl)))))), rfl⟩
theorem wv_X8_at : Cond.selects yX8_at.cls yX8_at yX8_at ∈ wsG := List.mem_filter.mpr ⟨List.mem_append_right _ (List.mem_append_right _ (List.mem_append_right _ (List.mem_append_right _ (List.mem_append_right _ (List.mem_append_left _ (List.mem_of_getElem? (i := 19) rfl)))))), rfl⟩
theorem mv_RL_26 : MV RL 26 yX8_at cX8_at 3 (some .int) 2 := ⟨List.mem_filter.mpr ⟨List.mem_append_right _ (List.mem_append_right _ (List.mem_append_right _ (List.mem_append_right _ (List.mem_append_right _ (List.mem_append_left _ (List.mem_of_getElem? (i := 17) rfl)))))), rfl⟩, wi_X8_at, wv_X8_at, wn_RX8, wc_X8_at, by decide +kernel⟩
theorem wc_X7_tear : Cond.code yX7_tear cX7_tear 2 (some .int) ∈ wsG := List.mem_filter.mpr ⟨List.mem_append_right _ (List.mem_append_right _ (List.mem_append_left _ (List.mem_of_getElem? (i := 98) rfl))), rfl⟩
theorem wi_X7_tear : Cond.instanceMethod yX7_tear ∈ wsG := List.mem_filter.mpr ⟨List.mem_append_right _ (List.mem_append_right _ (List.mem_append_left _ (List.mem_of_getElem? (i := 96) rfl))), rfl⟩
theorem wv_X7_tear : Cond.selects yX7_tear.cls yX7_tear yX7_tear ∈ wsG := List.mem_filter.mpr ⟨List.mem_append_right _ (List.mem_append_right _ (List.mem_append_left _ (List.mem_of_getElem? (i := 97) rfl))), rfl⟩
theorem mv_RL_27 : MV RL 27 yX7_tear cX7_tear 2 (some .int) 1 := ⟨List.mem_filter.mpr ⟨List.mem_append_right _ (List.mem_append_right _ (List.mem_append_left _ (List.mem_of_getElem? (i := 95) rfl))), rfl⟩, wi_X7_tear, wv_X7_tear, wn_RX7, wc_X7_tear, by decide +kernel⟩
theorem wc_X8_tear : Cond.code yX8_tear cX8_tear 2 (some .int) ∈ wsG := List.mem_filter.mpr ⟨List.mem_append_right _ (List.mem_append_right _ (List.mem_append_right _ (List.mem_append_right _ (List.mem_append_right _ (List.mem_append_left _ (List.mem_of_getElem? (i := 24) rfl)))))), rfl⟩
theorem wi_X8_tear : Cond.instanceMethod yX8_tear ∈ wsG := List.mem_filter.mpr ⟨List.mem_append_right _ (List.mem_append_right _ (List.mem_append_right _ (List.mem_append_right _ (List.mem_append_right _ (List.mem_append_left _ (List.mem_of_getElem? (i := 22) rfl)))))), rfl⟩
theorem wv_X8_tear : Cond.selects yX8_tear.cls yX8_tear yX8_tear ∈ wsG := List.mem_filter.mpr ⟨List.mem_append_right _ (List.mem_append_right _ (List.mem_append_right _ (List.mem_append_right _ (List.mem_append_right _ (List.mem_append_left _ (List.mem_of_getElem? (i := 23) rfl)))))), rfl⟩
theorem mv_RL_31 : MV RL 31 yX8_tear cX8_tear 2 (some .int) 1 := ⟨List.mem_filter.mpr ⟨List.mem_append_right _ (List.mem_append_right _ (List.mem_append_right _ (List.mem_append_right _ (List.mem_append_right _ (List.mem_append_left _ (List.mem_of_getElem? (i := 21) rfl)))))), rfl⟩, wi_X8_tear, wv_X8_tear, wn_RX8, wc_X8_tear, by decide +kernel⟩
theorem wc_X7_copy : Cond.code yX7_copy cX7_copy 6 (some .int) ∈ wsG := List.mem_filter.mpr ⟨List.mem_append_right _ (List.mem_append_right _ (List.mem_append_left _ (List.mem_of_getElem? (i := 102) rfl))), rfl⟩
theorem wi_X7_copy : Cond.instanceMethod yX7_copy ∈ wsG := List.mem_filter.mpr ⟨List.mem_append_right _ (List.mem_append_right _ (List.mem_append_left _ (List.mem_of_getElem? (i := 100) rfl))), rfl⟩
theorem wv_X7_copy : Cond.selects yX7_copy.cls yX7_copy yX7_copy ∈ wsG := List.mem_filter.mpr ⟨List.mem_append_right _ (List.mem_append_right _ (List.mem_append_left _ (List.mem_of_getElem? (i := 101) rfl))), rfl⟩
theorem mv_RL_32 : MV RL 32 yX7_copy cX7_copy 6 (some .int) 5 := ⟨List.mem_filter.mpr ⟨List.mem_append_right _ (List.mem_append_right _ (List.mem_append_left _ (List.mem_of_getElem? (i := 99) rfl))), rfl⟩, wi_X7_copy, wv_X7_copy, wn_RX7, wc_X7_copy, by decide +kernel⟩
theorem wc_X8_copy : Cond.code yX8_copy cX8_copy 7 (some .int) ∈ wsG := List.mem_filter.mpr ⟨List.mem_append_right _ (List.mem_append_right _ (List.mem_append_right _ (List.mem_append_right _ (List.mem_append_right _ (List.mem_append_left _ (List.mem_of_getElem? (i := 28) rfl)))))), rfl⟩
theorem wi_X8_copy : Cond.instanceMethod yX8_copy ∈ wsG := List.mem_filter.mpr ⟨List.mem_append_right _ (List.mem_append_right _ (List.mem_append_right _ (List.mem_append_right _ (List.mem_append_right _ (List.mem_append_left _ (List.mem_of_getElem? (i := 26) rfl)))))), rfl⟩
theorem wv_X8_copy : Cond.selects yX8_copy.cls yX8_copy yX8_copy ∈ wsG := List.mem_filter.mpr ⟨List.mem_append_right _ (List.mem_append_right _ (List.mem_append_right _ (List.mem_append_right _ (List.mem_append_right _ (List.mem_append_left _ (List.mem_of_getElem? (i := 27) rfl)))))), rfl⟩
theorem mv_RL_36 : MV RL 36 yX8_copy cX8_copy 7 (some .int) 5 := ⟨List.mem_filter.mpr ⟨List.mem_append_right _ (List.mem_append_right _ (List.mem_append_right _ (List.mem_append_right _ (List.mem_append_right _ (List.mem_append_left _ (List.mem_of_getElem? (i := 25) rfl)))))), rfl⟩, wi_X8_copy, wv_X8_copy, wn_RX8, wc_X8_copy, by decide +kernel⟩
theorem wc_X7_mean : Cond.code yX7_mean cX7_mean 6 (some .int) ∈ wsG := List.mem_filter.mpr ⟨List.mem_append_right _ (List.mem_append_right _ (List.mem_append_left _ (List.mem_of_getElem? (i := 112) rfl))), rfl⟩
theorem wi_X7_mean : Cond.instanceMethod yX7_mean ∈ wsG := List.mem_filter.mpr ⟨List.mem_append_right _ (List.mem_append_right _ (List.mem_append_left _ (List.mem_of_getElem? (i := 110) rfl))), rfl⟩
theorem wv_X7_mean : Cond.selects yX7_mean.cls yX7_mean yX7_mean ∈ wsG := List.mem_filter.mpr ⟨List.mem_append_right _ (List.mem_append_right _ (List.mem_append_left _ (List.mem_of_getElem? (i := 111) rfl))), rfl⟩
theorem mv_RL_37 : MV RL 37 yX7_mean cX7_mean 6 (some .int) 1 := ⟨List.mem_filter.mpr ⟨List.mem_append_right _ (List.mem_append_right _ (List.mem_append_left _ (List.mem_of_getElem? (i := 109) rfl))), rfl⟩, wi_X7_mean, wv_X7_mean, wn_RX7, wc_X7_mean, by decide +kernel⟩
theorem wc_X8_mean : Cond.code yX8_mean cX8_mean 5 (some .int) ∈ wsG := List.mem_filter.mpr ⟨List.mem_append_right _ (List.mem_append_right _ (List.mem_append_right _ (List.mem_append_right _ (List.mem_append_right _ (List.mem_append_left _ (List.mem_of_getElem? (i := 32) rfl)))))), rfl⟩
theorem wi_X8_mean : Cond.instanceMethod yX8_mean ∈ wsG := List.mem_filter.mpr ⟨List.mem_append_right _ (List.mem_append_right _ (List.mem_append_right _ (List.mem_append_right _ (List.mem_append_right _ (List.mem_append_left _ (List.mem_of_getElem? (i := 30) rfl)))))), rfl⟩
theorem wv_X8_mean : Cond.selects yX8_mean.cls yX8_mean yX8_mean ∈ wsG := List.mem_filter.mpr ⟨List.mem_append_right _ (List.mem_append_right _ (List.mem_append_right _ (List.mem_append_right _ (List.mem_append_right _ (List.mem_append_left _ (List.mem_of_getElem? (i := 31) rfl)))))), rfl⟩
theorem mv_RL_40 : MV RL 40 yX8_mean cX8_mean 5 (some .int) 1 := ⟨List.mem_filter.mpr ⟨List.mem_append_right _ (List.mem_append_right _ (List.mem_append_right _ (List.mem_append_right _ (List.mem_append_right _ (List.mem_append_left _ (List.mem_of_getElem? (i := 29) rfl)))))), rfl⟩, wi_X8_mean, wv_X8_mean, wn_RX8, wc_X8_mean, by decide +kernel⟩
theorem wc_X7_text : Cond.code yX7_text cX7_text 3 (some .int) ∈ wsG := List.mem_filter.mpr ⟨List.mem_append_right _ (List.mem_append_right _ (List.mem_append_left _ (List.mem_of_getElem? (i := 116) rfl))), rfl⟩
theorem wi_X7_text : Cond.instanceMethod yX7_text ∈ wsG := List.mem_filter.mpr ⟨List.mem_append_right _ (List.mem_append_right _ (List.mem_append_left _ (List.mem_of_getElem? (i := 114) rfl))), rfl⟩
theorem wv_X7_text : Cond.selects yX7_text.cls yX7_text yX7_text ∈ wsG := List.mem_filter.mpr ⟨List.mem_append_right _ (List.mem_append_right _ (List.mem_append_left _ (List.mem_of_getElem? (i := 115) rfl))), rfl⟩
theorem mv_RL_41 : MV RL 41 yX7_text cX7_text 3 (some .int) 2 := ⟨List.mem_filter.mpr ⟨List.mem_append_right _ (List.mem_append_right _ (List.mem_append_left _ (List.mem_of_getElem? (i := 113) rfl))), rfl⟩, wi_X7_text, wv_X7_text, wn_RX7, wc_X7_text, by decide +kernel⟩
theorem wc_X8_text : Cond.code yX8_text cX8_text 4 (some .int) ∈ wsG := List.mem_filter.mpr ⟨List.mem_append_right _ (List.mem_append_right _ (List.mem_append_right _ (List.mem_append_right _ (List.mem_append_right _ (List.mem_append_left _ (List.mem_of_getElem? (i := 36) rfl)))))), rfl⟩
theorem wi_X8_text : Cond.instanceMethod yX8_text ∈ wsG := List.mem_filter.mpr ⟨List.mem_append_right _ (List.mem_append_right _ (List.mem_append_right _ (List.mem_append_right _ (List.mem_append_right _ (List.mem_append_left _ (List.mem_of_getElem? (i := 34) rfl)))))), rfl⟩
theorem wv_X8_text : Cond.selects yX8_text.cls yX8_text yX8_text ∈ wsG := List.mem_filter.mpr ⟨List.mem_append_right _ (List.mem_append_right _ (List.mem_append_right _ (List.mem_append_right _ (List.mem_append_right _ (List.mem_append_left _ (List.mem_of_getElem? (i := 35) rfl)))))), rfl⟩
theorem mv_RL_44 : MV RL 44 yX8_text cX8_text 4 (some .int) 2 := ⟨List.mem_filter.mpr ⟨List.mem_append_right _ (List.mem_append_right _ (List.mem_append_right _ (List.mem_append_right _ (List.mem_append_right _ (List.mem_append_left _ (List.mem_of_getElem? (i := 33) rfl)))))), rfl⟩, wi_X8_text, wv_X8_text, wn_RX8, wc_X8_text, by decide +kernel⟩
theorem wc_X7_put : Cond.code yX7_put cX7_put 5 (some .int) ∈ wsG := List.mem_filter.mpr ⟨List.mem_append_right _ (List.mem_append_right _ (List.mem_append_left _ (List.mem_of_getElem? (i := 123) rfl))), rfl⟩
theorem wi_X7_put : Cond.instanceMethod yX7_put ∈ wsG := List.mem_filter.mpr ⟨List.mem_append_right _ (List.mem_append_right _ (List.mem_append_left _ (List.mem_of_getElem? (i := 121) rfl))), rfl⟩
theorem wv_X7_put : Cond.selects yX7_put.cls yX7_put yX7_put ∈ wsG := List.mem_filter.mpr ⟨List.mem_append_right _ (List.mem_append_right _ (List.mem_append_left _ (List.mem_of_getElem? (i := 122) rfl))), rfl⟩
theorem mv_RL_45 : MV RL 45 yX7_put cX7_put 5 (some .int) 3 := ⟨List.mem_filter.mpr ⟨List.mem_append_right _ (List.mem_append_right _ (List.mem_append_left _ (List.mem_of_getElem? (i := 120) rfl))), rfl⟩, wi_X7_put, wv_X7_put, wn_RX7, wc_X7_put, by decide +kernel⟩
theorem wc_X8_put : Cond.code yX8_put cX8_put 5 (some .int) ∈ wsG := List.mem_filter.mpr ⟨List.mem_append_right _ (List.mem_append_right _ (List.mem_append_right _ (List.mem_append_right _ (List.mem_append_right _ (List.mem_append_left _ (List.mem_of_getElem? (i := 43) rfl)))))), rfl⟩
theorem wi_X8_put : Cond.instanceMethod yX8_put ∈ wsG := List.mem_filter.mpr ⟨List.mem_append_right _ (List.mem_append_right _ (List.mem_append_right _ (List.mem_append_right _ (List.mem_append_right _ (List.mem_append_left _ (List.mem_of_getElem? (i := 41) rfl)))))), rfl⟩
theorem wv_X8_put : Cond.selects yX8_put.cls yX8_put yX8_put ∈ wsG := List.mem_filter.mpr ⟨List.mem_append_right _ (List.mem_append_right _ (List.mem_append_right _ (List.mem_append_right _ (List.mem_append_right _ (List.mem_append_left _ (List.mem_of_getElem? (i := 42) rfl)))))), rfl⟩
theorem mv_RL_48 : MV RL 48 yX8_put cX8_put 5 (some .int) 3 := ⟨List.mem_filter.mpr ⟨List.mem_append_right _ (List.mem_append_right _ (List.mem_append_right _ (List.mem_append_right _ (List.mem_append_right _ (List.mem_append_left _ (List.mem_of_getElem? (i := 40) rfl)))))), rfl⟩, wi_X8_put, wv_X8_put, wn_RX8, wc_X8_put, by decide +kernel⟩
theorem wc_X7_fault : Cond.code yX7_fault cX7_fault 3 (some .int) ∈ wsG := List.mem_filter.mpr ⟨List.mem_append_right _ (List.mem_append_right _ (List.mem_append_left _ (List.mem_of_getElem? (i := 127) rfl))), rfl⟩
theorem wi_X7_fault : Cond.instanceMethod yX7_fault ∈ wsG := List.mem_filter.mpr ⟨List.mem_append_right _ (List.mem_append_right _ (List.mem_append_left _ (List.mem_of_getElem? (i := 125) rfl))), rfl⟩
theorem wv_X7_fault : Cond.selects yX7_fault.cls yX7_fault yX7_fault ∈ wsG := List.mem_filter.mpr ⟨List.mem_append_right _ (List.mem_append_right _ (List.mem_append_left _ (List.mem_of_getElem? (i := 126) rfl))), rfl⟩
theorem mv_RL_49 : MV RL 49 yX7_fault cX7_fault 3 (some .int) 2 := ⟨List.mem_filter.mpr ⟨List.mem_append_right _ (List.mem_append_right _ (List.mem_append_left _ (List.mem_of_getElem? (i := 124) rfl))), rfl⟩, wi_X7_fault, wv_X7_fault, wn_RX7, wc_X7_fault, by decide +kernel⟩
theorem wc_X8_fault : Cond.code yX8_fault cX8_fault 3 (some .int) ∈ wsG := List.mem_filter.mpr ⟨List.mem_append_right _ (List.mem_append_right _ (List.mem_append_right _ (List.mem_append_right _ (List.mem_append_right _ (List.mem_append_left _ (List.mem_of_getElem? (i := 47) rfl)))))), rfl⟩
theorem wi_X8_fault : Cond.instanceMethod yX8_fault ∈ wsG := List.mem_filter.mpr ⟨List.mem_append_right _ (List.mem_append_right _ (List.mem_append_right _ (List.mem_append_right _ (List.mem_append_right _ (List.mem_append_left _ (List.mem_of_getElem? (i := 45) rfl)))))), rfl⟩
theorem wv_X8_fault : Cond.selects yX8_fault.cls yX8_fault yX8_fault ∈ wsG := List.mem_filter.mpr ⟨List.mem_append_right _ (List.mem_append_right _ (List.mem_append_right _ (List.mem_append_right _ (List.mem_append_right _ (List.mem_append_left _ (List.mem_of_getElem? (i := 46) rfl)))))), rfl⟩
theorem mv_RL_53 : MV RL 53 yX8_fault cX8_fault 3 (some .int) 2 := ⟨List.mem_filter.mpr ⟨List.mem_append_right _ (List.mem_append_right _ (List.mem_append_right _ (List.mem_append_right _ (List.mem_append_right _ (List.mem_append_left _ (List.mem_of_getElem? (i := 44) rfl)))))), rfl⟩, wi_X8_fault, wv_X8_fault, wn_RX8, wc_X8_fault, by decide +kernel⟩
theorem wc_X7_snow : Cond.code yX7_snow cX7_snow 3 (some .int) ∈ wsG := List.mem_filter.mpr ⟨List.mem_append_right _ (List.mem_append_right _ (List.mem_append_left _ (List.mem_of_getElem? (i := 196) rfl))), rfl⟩
theorem wi_X7_snow : Cond.instanceMethod yX7_snow ∈ wsG := List.mem_filter.mpr ⟨List.mem_append_right _ (List.mem_append_right _ (List.mem_append_left _ (List.mem_of_getElem? (i := 194) rfl))), rfl⟩
theorem wv_X7_snow : Cond.selects yX7_snow.cls yX7_snow yX7_snow ∈ wsG := List.mem_filter.mpr ⟨List.mem_append_right _ (List.mem_append_right _ (List.mem_append_left _ (List.mem_of_getElem? (i := 195) rfl))), rfl⟩
theorem mv_RL_54 : MV RL 54 yX7_snow cX7_snow 3 (some .int) 2 := ⟨List.mem_filter.mpr ⟨List.mem_append_right _ (List.mem_append_right _ (List.mem_append_left _ (List.mem_of_getElem? (i := 193) rfl))), rfl⟩, wi_X7_snow, wv_X7_snow, wn_RX7, wc_X7_snow, by decide +kernel⟩
theorem wc_X8_snow : Cond.code yX8_snow cX8_snow 4 (some .int) ∈ wsG := List.mem_filter.mpr ⟨List.mem_append_right _ (List.mem_append_right _ (List.mem_append_right _ (List.mem_append_right _ (List.mem_append_right _ (List.mem_append_left _ (List.mem_of_getElem? (i := 82) rfl)))))), rfl⟩
theorem wi_X8_snow : Cond.instanceMethod yX8_snow ∈ wsG := List.mem_filter.mpr ⟨List.mem_append_right _ (List.mem_append_right _ (List.mem_append_right _ (List.mem_append_right _ (List.mem_append_right _ (List.mem_append_left _ (List.mem_of_getElem? (i := 80) rfl)))))), rfl⟩
theorem wv_X8_snow : Cond.selects yX8_snow.cls yX8_snow yX8_snow ∈ wsG := List.mem_filter.mpr ⟨List.mem_append_right _ (List.mem_append_right _ (List.mem_append_right _ (List.mem_append_right _ (List.mem_append_right _ (List.mem_append_left _ (List.mem_of_getElem? (i := 81) rfl)))))), rfl⟩
theorem mv_RL_57 : MV RL 57 yX8_snow cX8_snow 4 (some .int) 2 := ⟨List.mem_filter.mpr ⟨List.mem_append_right _ (List.mem_append_right _ (List.mem_append_right _ (List.mem_append_right _ (List.mem_append_right _ (List.mem_append_left _ (List.mem_of_getElem? (i := 79) rfl)))))), rfl⟩, wi_X8_snow, wv_X8_snow, wn_RX8, wc_X8_snow, by decide +kernel⟩
theorem wc_X7_plan : Cond.code yX7_plan cX7_plan 3 (some .int) ∈ wsG := List.mem_filter.mpr ⟨List.mem_append_right _ (List.mem_append_right _ (List.mem_append_left _ (List.mem_of_getElem? (i := 205) rfl))), rfl⟩
theorem wi_X7_plan : Cond.instanceMethod yX7_plan ∈ wsG := List.mem_filter.mpr ⟨List.mem_append_right _ (List.mem_append_right _ (List.mem_append_left _ (List.mem_of_getElem? (i := 203) rfl))), rfl⟩
theorem wv_X7_plan : Cond.selects yX7_plan.cls yX7_plan yX7_plan ∈ wsG := List.mem_filter.mpr ⟨List.mem_append_right _ (List.mem_append_right _ (List.mem_append_left _ (List.mem_of_getElem? (i := 204) rfl))), rfl⟩
theorem mv_RL_58 : MV RL 58 yX7_plan cX7_plan 3 (some .int) 2 := ⟨List.mem_filter.mpr ⟨List.mem_append_right _ (List.mem_append_right _ (List.mem_append_left _ (List.mem_of_getElem? (i := 202) rfl))), rfl⟩, wi_X7_plan, wv_X7_plan, wn_RX7, wc_X7_plan, by decide +kernel⟩
theorem wc_X8_plan : Cond.code yX8_plan cX8_plan 4 (some .int) ∈ wsG := List.mem_filter.mpr ⟨List.mem_append_right _ (List.mem_append_right _ (List.mem_append_right _ (List.mem_append_right _ (List.mem_append_right _ (List.mem_append_left _ (List.mem_of_getElem? (i := 89) rfl)))))), rfl⟩
theorem wi_X8_plan : Cond.instanceMethod yX8_plan ∈ wsG := List.mem_filter.mpr ⟨List.mem_append_right _ (List.mem_append_right _ (List.mem_append_right _ (List.mem_append_right _ (List.mem_append_right _ (List.mem_append_left _ (List.mem_of_getElem? (i := 87) rfl)))))), rfl⟩
theorem wv_X8_plan : Cond.selects yX8_plan.cls yX8_plan yX8_plan ∈ wsG := List.mem_filter.mpr ⟨List.mem_append_right _ (List.mem_append_right _ (List.mem_append_right _ (List.mem_append_right _ (List.mem_append_right _ (List.mem_append_left _ (List.mem_of_getElem? (i := 88) rfl)))))), rfl⟩
theorem mv_RL_61 : MV RL 61 yX8_plan cX8_plan 4 (some .int) 2 := ⟨List.mem_filter.mpr ⟨List.mem_append_right _ (List.mem_append_right _ (List.mem_append_right _ (List.mem_append_right _ (List.mem_append_right _ (List.mem_append_left _ (List.mem_of_getElem? (i := 86) rfl)))))), rfl⟩, wi_X8_plan, wv_X8_plan, wn_RX8, wc_X8_plan, by decide +kernel⟩
theorem wc_X7_about : Cond.code yX7_about cX7_about 3 (some .int) ∈ wsG := List.mem_filter.mpr ⟨List.mem_append_right _ (List.mem_append_right _ (List.mem_append_left _ (List.mem_of_getElem? (i := 214) rfl))), rfl⟩
theorem wi_X7_about : Cond.instanceMethod yX7_about ∈ wsG := List.mem_filter.mpr ⟨List.mem_append_right _ (List.mem_append_right _ (List.mem_append_left _ (List.mem_of_getElem? (i := 212) rfl))), rfl⟩
theorem wv_X7_about : Cond.selects yX7_about.cls yX7_about yX7_about ∈ wsG := List.mem_filter.mpr ⟨List.mem_append_right _ (List.mem_append_right _ (List.mem_append_left _ (List.mem_of_getElem? (i := 213) rfl))), rfl⟩
theorem mv_RL_62 : MV RL 62 yX7_about cX7_about 3 (some .int) 2 := ⟨List.mem_filter.mpr ⟨List.mem_append_right _ (List.mem_append_right _ (List.mem_append_left _ (List.mem_of_getElem? (i := 211) rfl))), rfl⟩, wi_X7_about, wv_X7_about, wn_RX7, wc_X7_about, by decide +kernel⟩
theorem wc_X8_about : Cond.code yX8_about cX8_about 3 (some .int) ∈ wsG := List.mem_filter.mpr ⟨List.mem_append_right _ (List.mem_append_right _ (List.mem_append_right _ (List.mem_append_right _ (List.mem_append_right _ (List.mem_append_left _ (List.mem_of_getElem? (i := 93) rfl)))))), rfl⟩
theorem wi_X8_about : Cond.instanceMethod yX8_about ∈ wsG := List.mem_filter.mpr ⟨List.mem_append_right _ (List.mem_append_right _ (List.mem_append_right _ (List.mem_append_right _ (List.mem_append_right _ (List.mem_append_left _ (List.mem_of_getElem? (i := 91) rfl)))))), rfl⟩
theorem wv_X8_about : Cond.selects yX8_about.cls yX8_about yX8_about ∈ wsG := List.mem_filter.mpr ⟨List.mem_append_right _ (List.mem_append_right _ (List.mem_append_right _ (List.mem_append_right _ (List.mem_append_right _ (List.mem_append_left _ (List.mem_of_getElem? (i := 92) rfl)))))), rfl⟩
theorem mv_RL_65 : MV RL 65 yX8_about cX8_about 3 (some .int) 2 := ⟨List.mem_filter.mpr ⟨List.mem_append_right _ (List.mem_append_right _ (List.mem_append_right _ (List.mem_append_right _ (List.mem_append_right _ (List.mem_append_left _ (List.mem_of_getElem? (i := 90) rfl)))))), rfl⟩, wi_X8_about, wv_X8_about, wn_RX8, wc_X8_about, by decide +kernel⟩
theorem wc_X7_tells : Cond.code yX7_tells cX7_tells 3 (some .int) ∈ wsG := List.mem_filter.mpr ⟨List.mem_append_right _ (List.mem_append_right _ (List.mem_append_left _ (List.mem_of_getElem? (i := 218) rfl))), rfl⟩
theorem wi_X7_tells : Cond.instanceMethod yX7_tells ∈ wsG := List.mem_filter.mpr ⟨List.mem_append_right _ (List.mem_append_right _ (List.mem_append_left _ (List.mem_of_getElem? (i := 216) rfl))), rfl⟩
theorem wv_X7_tells : Cond.selects yX7_tells.cls yX7_tells yX7_tells ∈ wsG := List.mem_filter.mpr ⟨List.mem_append_right _ (List.mem_append_right _ (List.mem_append_left _ (List.mem_of_getElem? (i := 217) rfl))), rfl⟩
theorem mv_RL_66 : MV RL 66 yX7_tells cX7_tells 3 (some .int) 2 := ⟨List.mem_filter.mpr ⟨List.mem_append_right _ (List.mem_append_right _ (List.mem_append_left _ (List.mem_of_getElem? (i := 215) rfl))), rfl⟩, wi_X7_tells, wv_X7_tells, wn_RX7, wc_X7_tells, by decide +kernel⟩
theorem wc_X8_tells : Cond.code yX8_tells cX8_tells 3 (some .int) ∈ wsG := List.mem_filter.mpr ⟨List.mem_append_right _ (List.mem_append_right _ (List.mem_append_right _ (List.mem_append_right _ (List.mem_append_right _ (List.mem_append_left _ (List.mem_of_getElem? (i := 97) rfl)))))), rfl⟩
theorem wi_X8_tells : Cond.instanceMethod yX8_tells ∈ wsG := List.mem_filter.mpr ⟨List.mem_append_right _ (List.mem_append_right _ (List.mem_append_right _ (List.mem_append_right _ (List.mem_append_right _ (List.mem_append_left _ (List.mem_of_getElem? (i := 95) rfl)))))), rfl⟩
theorem wv_X8_tells : Cond.selects yX8_tells.cls yX8_tells yX8_tells ∈ wsG := List.mem_filter.mpr ⟨List.mem_append_right _ (List.mem_append_right _ (List.mem_append_right _ (List.mem_append_right _ (List.mem_append_right _ (List.mem_append_left _ (List.mem_of_getElem? (i := 96) rfl)))))), rfl⟩
theorem mv_RL_69 : MV RL 69 yX8_tells cX8_tells 3 (some .int) 2 := ⟨List.mem_filter.mpr ⟨List.mem_append_right _ (List.mem_append_right _ (List.mem_append_right _ (List.mem_append_right _ (List.mem_append_right _ (List.mem_append_left _ (List.mem_of_getElem? (i := 94) rfl)))))), rfl⟩, wi_X8_tells, wv_X8_tells, wn_RX8, wc_X8_tells, by decide +kernel⟩
theorem wc_X7_course : Cond.code yX7_course cX7_course 3 (some .int) ∈ wsG := List.mem_filter.mpr ⟨List.mem_append_right _ (List.mem_append_right _ (List.mem_append_left _ (List.mem_of_getElem? (i := 230) rfl))), rfl⟩
theorem wi_X7_course : Cond.instanceMethod yX7_course ∈ wsG := List.mem_filter.mpr ⟨List.mem_append_right _ (List.mem_append_right _ (List.mem_append_left _ (List.mem_of_getElem? (i := 228) rfl))), rfl⟩
theorem wv_X7_course : Cond.selects yX7_course.cls yX7_course yX7_course ∈ wsG := List.mem_filter.mpr ⟨List.mem_append_right _ (List.mem_append_right _ (List.mem_append_left _ (List.mem_of_getElem? (i := 229) rfl))), rfl⟩
theorem mv_RL_70 : MV RL 70 yX7_course cX7_course 3 (some .int) 2 := ⟨List.mem_filter.mpr ⟨List.mem_append_right _ (List.mem_append_right _ (List.mem_append_left _ (List.mem_of_getElem? (i := 227) rfl))), rfl⟩, wi_X7_course, wv_X7_course, wn_RX7, wc_X7_course, by decide +kernel⟩
theorem wc_X8_course : Cond.code yX8_course cX8_course 3 (some .int) ∈ wsG := List.mem_filter.mpr ⟨List.mem_append_right _ (List.mem_append_right _ (List.mem_append_right _ (List.mem_append_right _ (List.mem_append_right _ (List.mem_append_left _ (List.mem_of_getElem? (i := 113) rfl)))))), rfl⟩
theorem wi_X8_course : Cond.instanceMethod yX8_course ∈ wsG := List.mem_filter.mpr ⟨List.mem_append_right _ (List.mem_append_right _ (List.mem_append_right _ (List.mem_append_right _ (List.mem_append_right _ (List.mem_append_left _ (List.mem_of_getElem? (i := 111) rfl)))))), rfl⟩
theorem wv_X8_course : Cond.selects yX8_course.cls yX8_course yX8_course ∈ wsG := List.mem_filter.mpr ⟨List.mem_append_right _ (List.mem_append_right _ (List.mem_append_right _ (List.mem_append_right _ (List.mem_append_right _ (List.mem_append_left _ (List.mem_of_getElem? (i := 112) rfl)))))), rfl⟩
theorem mv_RL_73 : MV RL 73 yX8_course cX8_course 3 (some .int) 2 := ⟨List.mem_filter.mpr ⟨List.mem_append_right _ (List.mem_append_right _ (List.mem_append_right _ (List.mem_append_right _ (List.mem_append_right _ (List.mem_append_left _ (List.mem_of_getElem? (i := 110) rfl)))))), rfl⟩, wi_X8_course, wv_X8_course, wn_RX8, wc_X8_course, by decide +kernel⟩
theorem wc_X7_house : Cond.code yX7_house cX7_house 4 (some .int) ∈ wsG := List.mem_filter.mpr ⟨List.mem_append_right _ (List.mem_append_right _ (List.mem_append_left _ (List.mem_of_getElem? (i := 239) rfl))), rfl⟩
theorem wi_X7_house : Cond.instanceMethod yX7_house ∈ wsG := List.mem_filter.mpr ⟨List.mem_append_right _ (List.mem_append_right _ (List.mem_append_left _ (List.mem_of_getElem? (i := 237) rfl))), rfl⟩
theorem wv_X7_house : Cond.selects yX7_house.cls yX7_house yX7_house ∈ wsG := List.mem_filter.mpr ⟨List.mem_append_right _ (List.mem_append_right _ (List.mem_append_left _ (List.mem_of_getElem? (i := 238) rfl))), rfl⟩
theorem mv_RL_74 : MV RL 74 yX7_house cX7_house 4 (some .int) 3 := ⟨List.mem_filter.mpr ⟨List.mem_append_right _ (List.mem_append_right _ (List.mem_append_left _ (List.mem_of_getElem? (i := 236) rfl))), rfl⟩, wi_X7_house, wv_X7_house, wn_RX7, wc_X7_house, by decide +kernel⟩
theorem wc_X8_house : Cond.code yX8_house cX8_house 4 (some .int) ∈ wsG := List.mem_filter.mpr ⟨List.mem_append_right _ (List.mem_append_right _ (List.mem_append_right _ (List.mem_append_right _ (List.mem_append_right _ (List.mem_append_left _ (List.mem_of_getElem? (i := 121) rfl)))))), rfl⟩
theorem wi_X8_house : Cond.instanceMethod yX8_house ∈ wsG := List.mem_filter.mpr ⟨List.mem_append_right _ (List.mem_append_right _ (List.mem_append_right _ (List.mem_append_right _ (List.mem_append_right _ (List.mem_append_left _ (List.mem_of_getElem? (i := 119) rfl)))))), rfl⟩
theorem wv_X8_house : Cond.selects yX8_house.cls yX8_house yX8_house ∈ wsG := List.mem_filter.mpr ⟨List.mem_append_right _ (List.mem_append_right _ (List.mem_append_right _ (List.mem_append_right _ (List.mem_append_right _ (List.mem_append_left _ (List.mem_of_getElem? (i := 120) rfl)))))), rfl⟩
theorem mv_RL_77 : MV RL 77 yX8_house cX8_house 4 (some .int) 3 := ⟨List.mem_filter.mpr ⟨List.mem_append_right _ (List.mem_append_right _ (List.mem_append_right _ (List.mem_append_right _ (List.mem_append_right _ (List.mem_append_left _ (List.mem_of_getElem? (i := 118) rfl)))))), rfl⟩, wi_X8_house, wv_X8_house, wn_RX8, wc_X8_house, by decide +kernel⟩
theorem wc_X7_go : Cond.code yX7_go cX7_go 3 (some .int) ∈ wsG := List.mem_filter.mpr ⟨List.mem_append_right _ (List.mem_append_right _ (List.mem_append_right _ (List.mem_append_left _ (List.mem_of_getElem? (i := 30) rfl)))), rfl⟩
theorem wi_X7_go : Cond.instanceMethod yX7_go ∈ wsG := List.mem_filter.mpr ⟨List.mem_append_right _ (List.mem_append_right _ (List.mem_append_right _ (List.mem_append_left _ (List.mem_of_getElem? (i := 28) rfl)))), rfl⟩
theorem wv_X7_go : Cond.selects yX7_go.cls yX7_go yX7_go ∈ wsG := List.mem_filter.mpr ⟨List.mem_append_right _ (List.mem_append_right _ (List.mem_append_right _ (List.mem_append_left _ (List.mem_of_getElem? (i := 29) rfl)))), rfl⟩
theorem mv_RL_78 : MV RL 78 yX7_go cX7_go 3 (some .int) 1 := ⟨List.mem_filter.mpr ⟨List.mem_append_right _ (List.mem_append_right _ (List.mem_append_right _ (List.mem_append_left _ (List.mem_of_getElem? (i := 27) rfl)))), rfl⟩, wi_X7_go, wv_X7_go, wn_RX7, wc_X7_go, by decide +kernel⟩
theorem wc_X8_go : Cond.code yX8_go cX8_go 2 (some .int) ∈ wsG := List.mem_filter.mpr ⟨List.mem_append_right _ (List.mem_append_right _ (List.mem_append_right _ (List.mem_append_right _ (List.mem_append_right _ (List.mem_append_left _ (List.mem_of_getElem? (i := 157) rfl)))))), rfl⟩
theorem wi_X8_go : Cond.instanceMethod yX8_go ∈ wsG := List.mem_filter.mpr ⟨List.mem_append_right _ (List.mem_append_right _ (List.mem_append_right _ (List.mem_append_right _ (List.mem_append_right _ (List.mem_append_left _ (List.mem_of_getElem? (i := 155) rfl)))))), rfl⟩
theorem wv_X8_go : Cond.selects yX8_go.cls yX8_go yX8_go ∈ wsG := List.mem_filter.mpr ⟨List.mem_append_right _ (List.mem_append_right _ (List.mem_append_right _ (List.mem_append_right _ (List.mem_append_right _ (List.mem_append_left _ (List.mem_of_getElem? (i := 156) rfl)))))), rfl⟩
theorem mv_RL_81 : MV RL 81 yX8_go cX8_go 2 (some .int) 1 := ⟨List.mem_filter.mpr ⟨List.mem_append_right _ (List.mem_append_right _ (List.mem_append_right _ (List.mem_append_right _ (List.mem_append_right _ (List.mem_append_left _ (List.mem_of_getElem? (i := 154) rfl)))))), rfl⟩, wi_X8_go, wv_X8_go, wn_RX8, wc_X8_go, by decide +kernel⟩
theorem wc_X7_block : Cond.code yX7_block cX7_block 3 (some .int) ∈ wsG := List.mem_filter.mpr ⟨List.mem_append_right _ (List.mem_append_right _ (List.mem_append_right _ (List.mem_append_left _ (List.mem_of_getElem? (i := 63) rfl)))), rfl⟩
theorem wi_X7_block : Cond.instanceMethod yX7_block ∈ wsG := List.mem_filter.mpr ⟨List.mem_append_right _ (List.mem_append_right _ (List.mem_append_right _ (List.mem_append_left _ (List.mem_of_getElem? (i := 61) rfl)))), rfl⟩
theorem wv_X7_block : Cond.selects yX7_block.cls yX7_block yX7_block ∈ wsG := List.mem_filter.mpr ⟨List.mem_append_right _ (List.mem_append_right _ (List.mem_append_right _ (List.mem_append_left _ (List.mem_of_getElem? (i := 62) rfl)))), rfl⟩
theorem mv_RL_82 : MV RL 82 yX7_block cX7_block 3 (some .int) 2 := ⟨List.mem_filter.mpr ⟨List.mem_append_right _ (List.mem_append_right _ (List.mem_append_right _ (List.mem_append_left _ (List.mem_of_getElem? (i := 60) rfl)))), rfl⟩, wi_X7_block, wv_X7_block, wn_RX7, wc_X7_block, by decide +kernel⟩
theorem wc_X8_block : Cond.code yX8_block cX8_block 3 (some .int) ∈ wsG := List.mem_filter.mpr ⟨List.mem_append_right _ (List.mem_append_right _ (List.mem_append_right _ (List.mem_append_right _ (List.mem_append_right _ (List.mem_append_left _ (List.mem_of_getElem? (i := 232) rfl)))))), rfl⟩
theorem wi_X8_block : Cond.instanceMethod yX8_block ∈ wsG := List.mem_filter.mpr ⟨List.mem_append_right _ (List.mem_append_right _ (List.mem_append_right _ (List.mem_append_right _ (List.mem_append_right _ (List.mem_append_left _ (List.mem_of_getElem? (i := 230) rfl)))))), rfl⟩
theorem wv_X8_block : Cond.selects yX8_block.cls yX8_block yX8_block ∈ wsG := List.mem_filter.mpr ⟨List.mem_append_right _ (List.mem_append_right _ (List.mem_append_right _ (List.mem_append_right _ (List.mem_append_right _ (List.mem_append_left _ (List.mem_of_getElem? (i := 231) rfl)))))), rfl⟩
theorem mv_RL_85 : MV RL 85 yX8_block cX8_block 3 (some .int) 2 := ⟨List.mem_filter.mpr ⟨List.mem_append_right _ (List.mem_append_right _ (List.mem_append_right _ (List.mem_append_right _ (List.mem_append_right _ (List.mem_append_left _ (List.mem_of_getElem? (i := 229) rfl)))))), rfl⟩, wi_X8_block, wv_X8_block, wn_RX8, wc_X8_block, by decide +kernel⟩
theorem wc_X7_pull : Cond.code yX7_pull cX7_pull 2 (some .int) ∈ wsG := List.mem_filter.mpr ⟨List.mem_append_right _ (List.mem_append_right _ (List.mem_append_right _ (List.mem_append_left _ (List.mem_of_getElem? (i := 83) rfl)))), rfl⟩
theorem wi_X7_pull : Cond.instanceMethod yX7_pull ∈ wsG := List.mem_filter.mpr ⟨List.mem_append_right _ (List.mem_append_right _ (List.mem_append_right _ (List.mem_append_left _ (List.mem_of_getElem? (i := 81) rfl)))), rfl⟩
theorem wv_X7_pull : Cond.selects yX7_pull.cls yX7_pull yX7_pull ∈ wsG := List.mem_filter.mpr ⟨List.mem_append_right _ (List.mem_append_right _ (List.mem_append_right _ (List.mem_append_left _ (List.mem_of_getElem? (i := 82) rfl)))), rfl⟩
theorem mv_RL_86 : MV RL 86 yX7_pull cX7_pull 2 (some .int) 1 := ⟨List.mem_filter.mpr ⟨List.mem_append_right _ (List.mem_append_right _ (List.mem_append_right _ (List.mem_append_left _ (List.mem_of_getElem? (i := 80) rfl)))), rfl⟩, wi_X7_pull, wv_X7_pull, wn_RX7, wc_X7_pull, by decide +kernel⟩
theorem wc_X8_pull : Cond.code yX8_pull cX8_pull 2 (some .int) ∈ wsG := List.mem_filter.mpr ⟨List.mem_append_right _ (List.mem_append_right _ (List.mem_append_right _ (List.mem_append_right _ (List.mem_append_right _ (List.mem_append_right _ (List.mem_of_getElem? (i := 12) rfl)))))), rfl⟩
theorem wi_X8_pull : Cond.instanceMethod yX8_pull ∈ wsG := List.mem_filter.mpr ⟨List.mem_append_right _ (List.mem_append_right _ (List.mem_append_right _ (List.mem_append_right _ (List.mem_append_right _ (List.mem_append_right _ (List.mem_of_getElem? (i := 10) rfl)))))), rfl⟩
theorem wv_X8_pull : Cond.selects yX8_pull.cls yX8_pull yX8_pull ∈ wsG := List.mem_filter.mpr ⟨List.mem_append_right _ (List.mem_append_right _ (List.mem_append_right _ (List.mem_append_right _ (List.mem_append_right _ (List.mem_append_right _ (List.mem_of_getElem? (i := 11) rfl)))))), rfl⟩
theorem mv_RL_89 : MV RL 89 yX8_pull cX8_pull 2 (some .int) 1 := ⟨List.mem_filter.mpr ⟨List.mem_append_right _ (List.mem_append_right _ (List.mem_append_right _ (List.mem_append_right _ (List.mem_append_right _ (List.mem_append_right _ (List.mem_of_getElem? (i := 9) rfl)))))), rfl⟩, wi_X8_pull, wv_X8_pull, wn_RX8, wc_X8_pull, by decide +kernel⟩
theorem wc_X7_mark : Cond.code yX7_mark cX7_mark 3 (some .int) ∈ wsG := List.mem_filter.mpr ⟨List.mem_append_right _ (List.mem_append_right _ (List.mem_append_right _ (List.mem_append_left _ (List.mem_of_getElem? (i := 89) rfl)))), rfl⟩
theorem wi_X7_mark : Cond.instanceMethod yX7_mark ∈ wsG := List.mem_filter.mpr ⟨List.mem_append_right _ (List.mem_append_right _ (List.mem_append_right _ (List.mem_append_left _ (List.mem_of_getElem? (i := 87) rfl)))), rfl⟩
theorem wv_X7_mark : Cond.selects yX7_mark.cls yX7_mark yX7_mark ∈ wsG := List.mem_filter.mpr ⟨List.mem_append_right _ (List.mem_append_right _ (List.mem_append_right _ (List.mem_append_left _ (List.mem_of_getElem? (i := 88) rfl)))), rfl⟩
theorem mv_RL_90 : MV RL 90 yX7_mark cX7_mark 3 (some .int) 2 := ⟨List.mem_filter.mpr ⟨List.mem_append_right _ (List.mem_append_right _ (List.mem_append_right _ (List.mem_append_left _ (List.mem_of_getElem? (i := 86) rfl)))), rfl⟩, wi_X7_mark, wv_X7_mark, wn_RX7, wc_X7_mark, by decide +kernel⟩
theorem wc_X8_mark : Cond.code yX8_mark cX8_mark 4 (some .int) ∈ wsG := List.mem_filter.mpr ⟨List.mem_append_right _ (List.mem_append_right _ (List.mem_append_right _ (List.mem_append_right _ (List.mem_append_right _ (List.mem_append_right _ (List.mem_of_getElem? (i := 16) rfl)))))), rfl⟩
theorem wi_X8_mark : Cond.instanceMethod yX8_mark ∈ wsG := List.mem_filter.mpr ⟨List.mem_append_right _ (List.mem_append_right _ (List.mem_append_right _ (List.mem_append_right _ (List.mem_append_right _ (List.mem_append_right _ (List.mem_of_getElem? (i := 14) rfl)))))), rfl⟩
theorem wv_X8_mark : Cond.selects yX8_mark.cls yX8_mark yX8_mark ∈ wsG := List.mem_filter.mpr ⟨List.mem_append_right _ (List.mem_append_right _ (List.mem_append_right _ (List.mem_append_right _ (List.mem_append_right _ (List.mem_append_right _ (List.mem_of_getElem? (i := 15) rfl)))))), rfl⟩
theorem mv_RL_93 : MV RL 93 yX8_mark cX8_mark 4 (some .int) 2 := ⟨List.mem_filter.mpr ⟨List.mem_append_right _ (List.mem_append_right _ (List.mem_append_right _ (List.mem_append_right _ (List.mem_append_right _ (List.mem_append_right _ (List.mem_of_getElem? (i := 13) rfl)))))), rfl⟩, wi_X8_mark, wv_X8_mark, wn_RX8, wc_X8_mark, by decide +kernel⟩
theorem wc_X7_door : Cond.code yX7_door cX7_door 2 (some .int) ∈ wsG := List.mem_filter.mpr ⟨List.mem_append_right _ (List.mem_append_right _ (List.mem_append_right _ (List.mem_append_left _ (List.mem_of_getElem? (i := 101) rfl)))), rfl⟩
theorem wi_X7_door : Cond.instanceMethod yX7_door ∈ wsG := List.mem_filter.mpr ⟨List.mem_append_right _ (List.mem_append_right _ (List.mem_append_right _ (List.mem_append_left _ (List.mem_of_getElem? (i := 99) rfl)))), rfl⟩
theorem wv_X7_door : Cond.selects yX7_door.cls yX7_door yX7_door ∈ wsG := List.mem_filter.mpr ⟨List.mem_append_right _ (List.mem_append_right _ (List.mem_append_right _ (List.mem_append_left _ (List.mem_of_getElem? (i := 100) rfl)))), rfl⟩
theorem mv_RL_94 : MV RL 94 yX7_door cX7_door 2 (some .int) 1 := ⟨List.mem_filter.mpr ⟨List.mem_append_right _ (List.mem_append_right _ (List.mem_append_right _ (List.mem_append_left _ (List.mem_of_getElem? (i := 98) rfl)))), rfl⟩, wi_X7_door, wv_X7_door, wn_RX7, wc_X7_door, by decide +kernel⟩
theorem wc_X8_door : Cond.code yX8_door cX8_door 3 (some .int) ∈ wsG := List.mem_filter.mpr ⟨List.mem_append_right _ (List.mem_append_right _ (List.mem_append_right _ (List.mem_append_right _ (List.mem_append_right _ (List.mem_append_right _ (List.mem_of_getElem? (i := 20) rfl)))))), rfl⟩
theorem wi_X8_door : Cond.instanceMethod yX8_door ∈ wsG := List.mem_filter.mpr ⟨List.mem_append_right _ (List.mem_append_right _ (List.mem_append_right _ (List.mem_append_right _ (List.mem_append_right _ (List.mem_append_right _ (List.mem_of_getElem? (i := 18) rfl)))))), rfl⟩
theorem wv_X8_door : Cond.selects yX8_door.cls yX8_door yX8_door ∈ wsG := List.mem_filter.mpr ⟨List.mem_append_right _ (List.mem_append_right _ (List.mem_append_right _ (List.mem_append_right _ (List.mem_append_right _ (List.mem_append_right _ (List.mem_of_getElem? (i := 19) rfl)))))), rfl⟩
theorem mv_RL_97 : MV RL 97 yX8_door cX8_door 3 (some .int) 1 := ⟨List.mem_filter.mpr ⟨List.mem_append_right _ (List.mem_append_right _ (List.mem_append_right _ (List.mem_append_right _ (List.mem_append_right _ (List.mem_append_right _ (List.mem_of_getElem? (i := 17) rfl)))))), rfl⟩, wi_X8_door, wv_X8_door, wn_RX8, wc_X8_door, by decide +kernel⟩
theorem wc_X7_keep : Cond.code yX7_keep cX7_keep 2 (some .int) ∈ wsG := List.mem_filter.mpr ⟨List.mem_append_right _ (List.mem_append_right _ (List.mem_append_right _ (List.mem_append_left _ (List.mem_of_getElem? (i := 109) rfl)))), rfl⟩
theorem wi_X7_keep : Cond.instanceMethod yX7_keep ∈ wsG := List.mem_filter.mpr ⟨List.mem_append_right _ (List.mem_append_right _ (List.mem_append_right _ (List.mem_append_left _ (List.mem_of_getElem? (i := 107) rfl)))), rfl⟩
theorem wv_X7_keep : Cond.selects yX7_keep.cls yX7_keep yX7_keep ∈ wsG := List.mem_filter.mpr ⟨List.mem_append_right _ (List.mem_append_right _ (List.mem_append_right _ (List.mem_append_left _ (List.mem_of_getElem? (i := 108) rfl)))), rfl⟩
theorem mv_RL_98 : MV RL 98 yX7_keep cX7_keep 2 (some .int) 1 := ⟨List.mem_filter.mpr ⟨List.mem_append_right _ (List.mem_append_right _ (List.mem_append_right _ (List.mem_append_left _ (List.mem_of_getElem? (i := 106) rfl)))), rfl⟩, wi_X7_keep, wv_X7_keep, wn_RX7, wc_X7_keep, by decide +kernel⟩
theorem wc_X8_keep : Cond.code yX8_keep cX8_keep 2 (some .int) ∈ wsG := List.mem_filter.mpr ⟨List.mem_append_right _ (List.mem_append_right _ (List.mem_append_right _ (List.mem_append_right _ (List.mem_append_right _ (List.mem_append_right _ (List.mem_of_getElem? (i := 28) rfl)))))), rfl⟩
theorem wi_X8_keep : Cond.instanceMethod yX8_keep ∈ wsG := List.mem_filter.mpr ⟨List.mem_append_right _ (List.mem_append_right _ (List.mem_append_right _ (List.mem_append_right _ (List.mem_append_right _ (List.mem_append_right _ (List.mem_of_getElem? (i := 26) rfl)))))), rfl⟩
theorem wv_X8_keep : Cond.selects yX8_keep.cls yX8_keep yX8_keep ∈ wsG := List.mem_filter.mpr ⟨List.mem_append_right _ (List.mem_append_right _ (List.mem_append_right _ (List.mem_append_right _ (List.mem_append_right _ (List.mem_append_right _ (List.mem_of_getElem? (i := 27) rfl)))))), rfl⟩
theorem mv_RL_101 : MV RL 101 yX8_keep cX8_keep 2 (some .int) 1 := ⟨List.mem_filter.mpr ⟨List.mem_append_right _ (List.mem_append_right _ (List.mem_append_right _ (List.mem_append_right _ (List.mem_append_right _ (List.mem_append_right _ (List.mem_of_getElem? (i := 25) rfl)))))), rfl⟩, wi_X8_keep, wv_X8_keep, wn_RX8, wc_X8_keep, by decide +kernel⟩
theorem wc_X7_on : Cond.code yX7_on cX7_on 2 (some .int) ∈ wsG := List.mem_filter.mpr ⟨List.mem_append_right _ (List.mem_append_right _ (List.mem_append_right _ (List.mem_append_left _ (List.mem_of_getElem? (i := 118) rfl)))), rfl⟩
theorem wi_X7_on : Cond.instanceMethod yX7_on ∈ wsG := List.mem_filter.mpr ⟨List.mem_append_right _ (List.mem_append_right _ (List.mem_append_right _ (List.mem_append_left _ (List.mem_of_getElem? (i := 116) rfl)))), rfl⟩
theorem wv_X7_on : Cond.selects yX7_on.cls yX7_on yX7_on ∈ wsG := List.mem_filter.mpr ⟨List.mem_append_right _ (List.mem_append_right _ (List.mem_append_right _ (List.mem_append_left _ (List.mem_of_getElem? (i := 117) rfl)))), rfl⟩
theorem mv_RL_102 : MV RL 102 yX7_on cX7_on 2 (some .int) 1 := ⟨List.mem_filter.mpr ⟨List.mem_append_right _ (List.mem_append_right _ (List.mem_append_right _ (List.mem_append_left _ (List.mem_of_getElem? (i := 115) rfl)))), rfl⟩, wi_X7_on, wv_X7_on, wn_RX7, wc_X7_on, by decide +kernel⟩
theorem wc_X8_on : Cond.code yX8_on cX8_on 2 (some .int) ∈ wsG := List.mem_filter.mpr ⟨List.mem_append_right _ (List.mem_append_right _ (List.mem_append_right _ (List.mem_append_right _ (List.mem_append_right _ (List.mem_append_right _ (List.mem_of_getElem? (i := 36) rfl)))))), rfl⟩
theorem wi_X8_on : Cond.instanceMethod yX8_on ∈ wsG := List.mem_filter.mpr ⟨List.mem_append_right _ (List.mem_append_right _ (List.mem_append_right _ (List.mem_append_right _ (List.mem_append_right _ (List.mem_append_right _ (List.mem_of_getElem? (i := 34) rfl)))))), rfl⟩
theorem wv_X8_on : Cond.selects yX8_on.cls yX8_on yX8_on ∈ wsG := List.mem_filter.mpr ⟨List.mem_append_right _ (List.mem_append_right _ (List.mem_append_right _ (List.mem_append_right _ (List.mem_append_right _ (List.mem_append_right _ (List.mem_of_getElem? (i := 35) rfl)))))), rfl⟩
theorem mv_RL_105 : MV RL 105 yX8_on cX8_on 2 (some .int) 1 := ⟨List.mem_filter.mpr ⟨List.mem_append_right _ (List.mem_append_right _ (List.mem_append_right _ (List.mem_append_right _ (List.mem_append_right _ (List.mem_append_right _ (List.mem_of_getElem? (i := 33) rfl)))))), rfl⟩, wi_X8_on, wv_X8_on, wn_RX8, wc_X8_on, by decide +kernel⟩
theorem wc_X7_slumped : Cond.code yX7_slumped cX7_slumped 1 (some .int) ∈ wsG := List.mem_filter.mpr ⟨List.mem_append_right _ (List.mem_append_right _ (List.mem_append_right _ (List.mem_append_left _ (List.mem_of_getElem? (i := 122) rfl)))), rfl⟩
theorem wi_X7_slumped : Cond.instanceMethod yX7_slumped ∈ wsG := List.mem_filter.mpr ⟨List.mem_append_right _ (List.mem_append_right _ (List.mem_append_right _ (List.mem_append_left _ (List.mem_of_getElem? (i := 120) rfl)))), rfl⟩
theorem wv_X7_slumped : Cond.selects yX7_slumped.cls yX7_slumped yX7_slumped ∈ wsG := List.mem_filter.mpr ⟨List.mem_append_right _ (List.mem_append_right _ (List.mem_append_right _ (List.mem_append_left _ (List.mem_of_getElem? (i := 121) rfl)))), rfl⟩
theorem mv_RL_106 : MV RL 106 yX7_slumped cX7_slumped 1 (some .int) 0 := ⟨List.mem_filter.mpr ⟨List.mem_append_right _ (List.mem_append_right _ (List.mem_append_right _ (List.mem_append_left _ (List.mem_of_getElem? (i := 119) rfl)))), rfl⟩, wi_X7_slumped, wv_X7_slumped, wn_RX7, wc_X7_slumped, by decide +kernel⟩
theorem wc_X8_slumped : Cond.code yX8_slumped cX8_slumped 1 (some .int) ∈ wsG := List.mem_filter.mpr ⟨List.mem_append_right _ (List.mem_append_right _ (List.mem_append_right _ (List.mem_append_right _ (List.mem_append_right _ (List.mem_append_right _ (List.mem_of_getElem? (i := 40) rfl)))))), rfl⟩
theorem wi_X8_slumped : Cond.instanceMethod yX8_slumped ∈ wsG := List.mem_filter.mpr ⟨List.mem_append_right _ (List.mem_append_right _ (List.mem_append_right _ (List.mem_append_right _ (List.mem_append_right _ (List.mem_append_right _ (List.mem_of_getElem? (i := 38) rfl)))))), rfl⟩
theorem wv_X8_slumped : Cond.selects yX8_slumped.cls yX8_slumped yX8_slumped ∈ wsG := List.mem_filter.mpr ⟨List.mem_append_right _ (List.mem_append_right _ (List.mem_append_right _ (List.mem_append_right _ (List.mem_append_right _ (List.mem_append_right _ (List.mem_of_getElem? (i := 39) rfl)))))), rfl⟩
theorem mv_RL_110 : MV RL 110 yX8_slumped cX8_slumped 1 (some .int) 0 := ⟨List.mem_filter.mpr ⟨List.mem_append_right _ (List.mem_append_right _ (List.mem_append_right _ (List.mem_append_right _ (List.mem_append_right _ (List.mem_append_right _ (List.mem_of_getElem? (i := 37) rfl)))))), rfl⟩, wi_X8_slumped, wv_X8_slumped, wn_RX8, wc_X8_slumped, by decide +kernel⟩
theorem wc_X7_falls : Cond.code yX7_falls cX7_falls 1 (some .int) ∈ wsG := List.mem_filter.mpr ⟨List.mem_append_right _ (List.mem_append_right _ (List.mem_append_right _ (List.mem_append_left _ (List.mem_of_getElem? (i := 130) rfl)))), rfl⟩
theorem wi_X7_falls : Cond.instanceMethod yX7_falls ∈ wsG := List.mem_filter.mpr ⟨List.mem_append_right _ (List.mem_append_right _ (List.mem_append_right _ (List.mem_append_left _ (List.mem_of_getElem? (i := 128) rfl)))), rfl⟩
theorem wv_X7_falls : Cond.selects yX7_falls.cls yX7_falls yX7_falls ∈ wsG := List.mem_filter.mpr ⟨List.mem_append_right _ (List.mem_append_right _ (List.mem_append_right _ (List.mem_append_left _ (List.mem_of_getElem? (i := 129) rfl)))), rfl⟩
theorem mv_RL_111 : MV RL 111 yX7_falls cX7_falls 1 (some .int) 0 := ⟨List.mem_filter.mpr ⟨List.mem_append_right _ (List.mem_append_right _ (List.mem_append_right _ (List.mem_append_left _ (List.mem_of_getElem? (i := 127) rfl)))), rfl⟩, wi_X7_falls, wv_X7_falls, wn_RX7, wc_X7_falls, by decide +kernel⟩
theorem wc_X8_falls : Cond.code yX8_falls cX8_falls 2 (some .int) ∈ wsG := List.mem_filter.mpr ⟨List.mem_append_right _ (List.mem_append_right _ (List.mem_append_right _ (List.mem_append_right _ (List.mem_append_right _ (List.mem_append_right _ (List.mem_of_getElem? (i := 48) rfl)))))), rfl⟩
theorem wi_X8_falls : Cond.instanceMethod yX8_falls ∈ wsG := List.mem_filter.mpr ⟨List.mem_append_right _ (List.mem_append_right _ (List.mem_append_right _ (List.mem_append_right _ (List.mem_append_right _ (List.mem_append_right _ (List.mem_of_getElem? (i := 46) rfl)))))), rfl⟩
theorem wv_X8_falls : Cond.selects yX8_falls.cls yX8_falls yX8_falls ∈ wsG := List.mem_filter.mpr ⟨List.mem_append_right _ (List.mem_append_right _ (List.mem_append_right _ (List.mem_append_right _ (List.mem_append_right _ (List.mem_append_right _ (List.mem_of_getElem? (i := 47) rfl)))))), rfl⟩
theorem mv_RL_114 : MV RL 114 yX8_falls cX8_falls 2 (some .int) 0 := ⟨List.mem_filter.mpr ⟨List.mem_append_right _ (List.mem_append_right _ (List.mem_append_right _ (List.mem_append_right _ (List.mem_append_right _ (List.mem_append_right _ (List.mem_of_getElem? (i := 45) rfl)))))), rfl⟩, wi_X8_falls, wv_X8_falls, wn_RX8, wc_X8_falls, by decide +kernel⟩
theorem wc_X7_pace : Cond.code yX7_pace cX7_pace 2 (some .int) ∈ wsG := List.mem_filter.mpr ⟨List.mem_append_right _ (List.mem_append_right _ (List.mem_append_right _ (List.mem_append_left _ (List.mem_of_getElem? (i := 139) rfl)))), rfl⟩
theorem wi_X7_pace : Cond.instanceMethod yX7_pace ∈ wsG := List.mem_filter.mpr ⟨List.mem_append_right _ (List.mem_append_right _ (List.mem_append_right _ (List.mem_append_left _ (List.mem_of_getElem? (i := 137) rfl)))), rfl⟩
theorem wv_X7_pace : Cond.selects yX7_pace.cls yX7_pace yX7_pace ∈ wsG := List.mem_filter.mpr ⟨List.mem_append_right _ (List.mem_append_right _ (List.mem_append_right _ (List.mem_append_left _ (List.mem_of_getElem? (i := 138) rfl)))), rfl⟩
theorem mv_RL_115 : MV RL 115 yX7_pace cX7_pace 2 (some .int) 1 := ⟨List.mem_filter.mpr ⟨List.mem_append_right _ (List.mem_append_right _ (List.mem_append_right _ (List.mem_append_left _ (List.mem_of_getElem? (i := 136) rfl)))), rfl⟩, wi_X7_pace, wv_X7_pace, wn_RX7, wc_X7_pace, by decide +kernel⟩
theorem wc_X8_pace : Cond.code yX8_pace cX8_pace 2 (some .int) ∈ wsG := List.mem_filter.mpr ⟨List.mem_append_right _ (List.mem_append_right _ (List.mem_append_right _ (List.mem_append_right _ (List.mem_append_right _ (List.mem_append_right _ (List.mem_of_getElem? (i := 60) rfl)))))), rfl⟩
theorem wi_X8_pace : Cond.instanceMethod yX8_pace ∈ wsG := List.mem_filter.mpr ⟨List.mem_append_right _ (List.mem_append_right _ (List.mem_append_right _ (List.mem_append_right _ (List.mem_append_right _ (List.mem_append_right _ (List.mem_of_getElem? (i := 58) rfl)))))), rfl⟩
theorem wv_X8_pace : Cond.selects yX8_pace.cls yX8_pace yX8_pace ∈ wsG := List.mem_filter.mpr ⟨List.mem_append_right _ (List.mem_append_right _ (List.mem_append_right _ (List.mem_append_right _ (List.mem_append_right _ (List.mem_append_right _ (List.mem_of_getElem? (i := 59) rfl)))))), rfl⟩
theorem mv_RL_118 : MV RL 118 yX8_pace cX8_pace 2 (some .int) 1 := ⟨List.mem_filter.mpr ⟨List.mem_append_right _ (List.mem_append_right _ (List.mem_append_right _ (List.mem_append_right _ (List.mem_append_right _ (List.mem_append_right _ (List.mem_of_getElem? (i := 57) rfl)))))), rfl⟩, wi_X8_pace, wv_X8_pace, wn_RX8, wc_X8_pace, by decide +kernel⟩
theorem wc_X7_lean : Cond.code yX7_lean cX7_lean 3 (some .int) ∈ wsG := List.mem_filter.mpr ⟨List.mem_append_right _ (List.mem_append_right _ (List.mem_append_right _ (List.mem_append_left _ (List.mem_of_getElem? (i := 143) rfl)))), rfl⟩
theorem wi_X7_lean : Cond.instanceMethod yX7_lean ∈ wsG := List.mem_filter.mpr ⟨List.mem_append_right _ (List.mem_append_right _ (List.mem_append_right _ (List.mem_append_left _ (List.mem_of_getElem? (i := 141) rfl)))), rfl⟩
theorem wv_X7_lean : Cond.selects yX7_lean.cls yX7_lean yX7_lean ∈ wsG := List.mem_filter.mpr ⟨List.mem_append_right _ (List.mem_append_right _ (List.mem_append_right _ (List.mem_append_left _ (List.mem_of_getElem? (i := 142) rfl)))), rfl⟩
theorem mv_RL_119 : MV RL 119 yX7_lean cX7_lean 3 (some .int) 1 := ⟨List.mem_filter.mpr ⟨List.mem_append_right _ (List.mem_append_right _ (List.mem_append_right _ (List.mem_append_left _ (List.mem_of_getElem? (i := 140) rfl)))), rfl⟩, wi_X7_lean, wv_X7_lean, wn_RX7, wc_X7_lean, by decide +kernel⟩
theorem wc_X8_lean : Cond.code yX8_lean cX8_lean 4 (some .int) ∈ wsG := List.mem_filter.mpr ⟨List.mem_append_right _ (List.mem_append_right _ (List.mem_append_right _ (List.mem_append_right _ (List.mem_append_right _ (List.mem_append_right _ (List.mem_of_getElem? (i := 64) rfl)))))), rfl⟩
theorem wi_X8_lean : Cond.instanceMethod yX8_lean ∈ wsG := List.mem_filter.mpr ⟨List.mem_append_right _ (List.mem_append_right _ (List.mem_append_right _ (List.mem_append_right _ (List.mem_append_right _ (List.mem_append_right _ (List.mem_of_getElem? (i := 62) rfl)))))), rfl⟩
theorem wv_X8_lean : Cond.selects yX8_lean.cls yX8_lean yX8_lean ∈ wsG := List.mem_filter.mpr ⟨List.mem_append_right _ (List.mem_append_right _ (List.mem_append_right _ (List.mem_append_right _ (List.mem_append_right _ (List.mem_append_right _ (List.mem_of_getElem? (i := 63) rfl)))))), rfl⟩
theorem mv_RL_122 : MV RL 122 yX8_lean cX8_lean 4 (some .int) 1 := ⟨List.mem_filter.mpr ⟨List.mem_append_right _ (List.mem_append_right _ (List.mem_append_right _ (List.mem_append_right _ (List.mem_append_right _ (List.mem_append_right _ (List.mem_of_getElem? (i := 61) rfl)))))), rfl⟩, wi_X8_lean, wv_X8_lean, wn_RX8, wc_X8_lean, by decide +kernel⟩
theorem wc_X7_slow : Cond.code yX7_slow cX7_slow 2 (some .int) ∈ wsG := List.mem_filter.mpr ⟨List.mem_append_right _ (List.mem_append_right _ (List.mem_append_right _ (List.mem_append_left _ (List.mem_of_getElem? (i := 147) rfl)))), rfl⟩
theorem wi_X7_slow : Cond.instanceMethod yX7_slow ∈ wsG := List.mem_filter.mpr ⟨List.mem_append_right _ (List.mem_append_right _ (List.mem_append_right _ (List.mem_append_left _ (List.mem_of_getElem? (i := 145) rfl)))), rfl⟩
theorem wv_X7_slow : Cond.selects yX7_slow.cls yX7_slow yX7_slow ∈ wsG := List.mem_filter.mpr ⟨List.mem_append_right _ (List.mem_append_right _ (List.mem_append_right _ (List.mem_append_left _ (List.mem_of_getElem? (i := 146) rfl)))), rfl⟩
theorem mv_RL_123 : MV RL 123 yX7_slow cX7_slow 2 (some .int) 0 := ⟨List.mem_filter.mpr ⟨List.mem_append_right _ (List.mem_append_right _ (List.mem_append_right _ (List.mem_append_left _ (List.mem_of_getElem? (i := 144) rfl)))), rfl⟩, wi_X7_slow, wv_X7_slow, wn_RX7, wc_X7_slow, by decide +kernel⟩
theorem wc_X8_slow : Cond.code yX8_slow cX8_slow 4 (some .int) ∈ wsG := List.mem_filter.mpr ⟨List.mem_append_right _ (List.mem_append_right _ (List.mem_append_right _ (List.mem_append_right _ (List.mem_append_right _ (List.mem_append_right _ (List.mem_of_getElem? (i := 68) rfl)))))), rfl⟩
theorem wi_X8_slow : Cond.instanceMethod yX8_slow ∈ wsG := List.mem_filter.mpr ⟨List.mem_append_right _ (List.mem_append_right _ (List.mem_append_right _ (List.mem_append_right _ (List.mem_append_right _ (List.mem_append_right _ (List.mem_of_getElem? (i := 66) rfl)))))), rfl⟩
theorem wv_X8_slow : Cond.selects yX8_slow.cls yX8_slow yX8_slow ∈ wsG := List.mem_filter.mpr ⟨List.mem_append_right _ (List.mem_append_right _ (List.mem_append_right _ (List.mem_append_right _ (List.mem_append_right _ (List.mem_append_right _ (List.mem_of_getElem? (i := 67) rfl)))))), rfl⟩
theorem mv_RL_126 : MV RL 126 yX8_slow cX8_slow 4 (some .int) 0 := ⟨List.mem_filter.mpr ⟨List.mem_append_right _ (List.mem_append_right _ (List.mem_append_right _ (List.mem_append_right _ (List.mem_append_right _ (List.mem_append_right _ (List.mem_of_getElem? (i := 65) rfl)))))), rfl⟩, wi_X8_slow, wv_X8_slow, wn_RX8, wc_X8_slow, by decide +kernel⟩
theorem wc_X7_spiral : Cond.code yX7_spiral cX7_spiral 6 (some .int) ∈ wsG := List.mem_filter.mpr ⟨List.mem_append_right _ (List.mem_append_right _ (List.mem_append_right _ (List.mem_append_left _ (List.mem_of_getElem? (i := 159) rfl)))), rfl⟩
theorem wi_X7_spiral : Cond.instanceMethod yX7_spiral ∈ wsG := List.mem_filter.mpr ⟨List.mem_append_right _ (List.mem_append_right _ (List.mem_append_right _ (List.mem_append_left _ (List.mem_of_getElem? (i := 157) rfl)))), rfl⟩
theorem wv_X7_spiral : Cond.selects yX7_spiral.cls yX7_spiral yX7_spiral ∈ wsG := List.mem_filter.mpr ⟨List.mem_append_right _ (List.mem_append_right _ (List.mem_append_right _ (List.mem_append_left _ (List.mem_of_getElem? (i := 158) rfl)))), rfl⟩
theorem mv_RL_127 : MV RL 127 yX7_spiral cX7_spiral 6 (some .int) 0 := ⟨List.mem_filter.mpr ⟨List.mem_append_right _ (List.mem_append_right _ (List.mem_append_right _ (List.mem_append_left _ (List.mem_of_getElem? (i := 156) rfl)))), rfl⟩, wi_X7_spiral, wv_X7_spiral, wn_RX7, wc_X7_spiral, by decide +kernel⟩
theorem wc_X8_spiral : Cond.code yX8_spiral cX8_spiral 6 (some .int) ∈ wsG := List.mem_filter.mpr ⟨List.mem_append_right _ (List.mem_append_right _ (List.mem_append_right _ (List.mem_append_right _ (List.mem_append_right _ (List.mem_append_right _ (List.mem_of_getElem? (i := 72) rfl)))))), rfl⟩
theorem wi_X8_spiral : Cond.instanceMethod yX8_spiral ∈ wsG := List.mem_filter.mpr ⟨List.mem_append_right _ (List.mem_append_right _ (List.mem_append_right _ (List.mem_append_right _ (List.mem_append_right _ (List.mem_append_right _ (List.mem_of_getElem? (i := 70) rfl)))))), rfl⟩
theorem wv_X8_spiral : Cond.selects yX8_spiral.cls yX8_spiral yX8_spiral ∈ wsG := List.mem_filter.mpr ⟨List.mem_append_right _ (List.mem_append_right _ (List.mem_append_right _ (List.mem_append_right _ (List.mem_append_right _ (List.mem_append_right _ (List.mem_of_getElem? (i := 71) rfl)))))), rfl⟩
theorem mv_RL_130 : MV RL 130 yX8_spiral cX8_spiral 6 (some .int) 0 := ⟨List.mem_filter.mpr ⟨List.mem_append_right _ (List.mem_append_right _ (List.mem_append_right _ (List.mem_append_right _ (List.mem_append_right _ (List.mem_append_right _ (List.mem_of_getElem? (i := 69) rfl)))))), rfl⟩, wi_X8_spiral, wv_X8_spiral, wn_RX8, wc_X8_spiral, by decide +kernel⟩
theorem wc_X7_fell : Cond.code yX7_fell cX7_fell 6 (some .int) ∈ wsG := List.mem_filter.mpr ⟨List.mem_append_right _ (List.mem_append_right _ (List.mem_append_right _ (List.mem_append_left _ (List.mem_of_getElem? (i := 167) rfl)))), rfl⟩
theorem wi_X7_fell : Cond.instanceMethod yX7_fell ∈ wsG := List.mem_filter.mpr ⟨List.mem_append_right _ (List.mem_append_right _ (List.mem_append_right _ (List.mem_append_left _ (List.mem_of_getElem? (i := 165) rfl)))), rfl⟩
theorem wv_X7_fell : Cond.selects yX7_fell.cls yX7_fell yX7_fell ∈ wsG := List.mem_filter.mpr ⟨List.mem_append_right _ (List.mem_append_right _ (List.mem_append_right _ (List.mem_append_left _ (List.mem_of_getElem? (i := 166) rfl)))), rfl⟩
theorem mv_RL_131 : MV RL 131 yX7_fell cX7_fell 6 (some .int) 1 := ⟨List.mem_filter.mpr ⟨List.mem_append_right _ (List.mem_append_right _ (List.mem_append_right _ (List.mem_append_left _ (List.mem_of_getElem? (i := 164) rfl)))), rfl⟩, wi_X7_fell, wv_X7_fell, wn_RX7, wc_X7_fell, by decide +kernel⟩
theorem wc_X8_fell : Cond.code yX8_fell cX8_fell 7 (some .int) ∈ wsG := List.mem_filter.mpr ⟨List.mem_append_right _ (List.mem_append_right _ (List.mem_append_right _ (List.mem_append_right _ (List.mem_append_right _ (List.mem_append_right _ (List.mem_of_getElem? (i := 76) rfl)))))), rfl⟩
theorem wi_X8_fell : Cond.instanceMethod yX8_fell ∈ wsG := List.mem_filter.mpr ⟨List.mem_append_right _ (List.mem_append_right _ (List.mem_append_right _ (List.mem_append_right _ (List.mem_append_right _ (List.mem_append_right _ (List.mem_of_getElem? (i := 74) rfl)))))), rfl⟩
theorem wv_X8_fell : Cond.selects yX8_fell.cls yX8_fell yX8_fell ∈ wsG := List.mem_filter.mpr ⟨List.mem_append_right _ (List.mem_append_right _ (List.mem_append_right _ (List.mem_append_right _ (List.mem_append_right _ (List.mem_append_right _ (List.mem_of_getElem? (i := 75) rfl)))))), rfl⟩
theorem mv_RL_134 : MV RL 134 yX8_fell cX8_fell 7 (some .int) 1 := ⟨List.mem_filter.mpr ⟨List.mem_append_right _ (List.mem_append_right _ (List.mem_append_right _ (List.mem_append_right _ (List.mem_append_right _ (List.mem_append_right _ (List.mem_of_getElem? (i := 73) rfl)))))), rfl⟩, wi_X8_fell, wv_X8_fell, wn_RX8, wc_X8_fell, by decide +kernel⟩
theorem wc_X7_odds : Cond.code yX7_odds cX7_odds 4 (some .int) ∈ wsG := List.mem_filter.mpr ⟨List.mem_append_right _ (List.mem_append_right _ (List.mem_append_right _ (List.mem_append_left _ (List.mem_of_getElem? (i := 185) rfl)))), rfl⟩
theorem wi_X7_odds : Cond.instanceMethod yX7_odds ∈ wsG := List.mem_filter.mpr ⟨List.mem_append_right _ (List.mem_append_right _ (List.mem_append_right _ (List.mem_append_left _ (List.mem_of_getElem? (i := 183) rfl)))), rfl⟩
theorem wv_X7_odds : Cond.selects yX7_odds.cls yX7_odds yX7_odds ∈ wsG := List.mem_filter.mpr ⟨List.mem_append_right _ (List.mem_append_right _ (List.mem_append_right _ (List.mem_append_left _ (List.mem_of_getElem? (i := 184) rfl)))), rfl⟩
theorem mv_RL_135 : MV RL 135 yX7_odds cX7_odds 4 (some .int) 0 := ⟨List.mem_filter.mpr ⟨List.mem_append_right _ (List.mem_append_right _ (List.mem_append_right _ (List.mem_append_left _ (List.mem_of_getElem? (i := 182) rfl)))), rfl⟩, wi_X7_odds, wv_X7_odds, wn_RX7, wc_X7_odds, by decide +kernel⟩
theorem wc_X8_odds : Cond.code yX8_odds cX8_odds 4 (some .int) ∈ wsG := List.mem_filter.mpr ⟨List.mem_append_right _ (List.mem_append_right _ (List.mem_append_right _ (List.mem_append_right _ (List.mem_append_right _ (List.mem_append_right _ (List.mem_of_getElem? (i := 88) rfl)))))), rfl⟩
theorem wi_X8_odds : Cond.instanceMethod yX8_odds ∈ wsG := List.mem_filter.mpr ⟨List.mem_append_right _ (List.mem_append_right _ (List.mem_append_right _ (List.mem_append_right _ (List.mem_append_right _ (List.mem_append_right _ (List.mem_of_getElem? (i := 86) rfl)))))), rfl⟩
theorem wv_X8_odds : Cond.selects yX8_odds.cls yX8_odds yX8_odds ∈ wsG := List.mem_filter.mpr ⟨List.mem_append_right _ (List.mem_append_right _ (List.mem_append_right _ (List.mem_append_right _ (List.mem_append_right _ (List.mem_append_right _ (List.mem_of_getElem? (i := 87) rfl)))))), rfl⟩
theorem mv_RL_138 : MV RL 138 yX8_odds cX8_odds 4 (some .int) 0 := ⟨List.mem_filter.mpr ⟨List.mem_append_right _ (List.mem_append_right _ (List.mem_append_right _ (List.mem_append_right _ (List.mem_append_right _ (List.mem_append_right _ (List.mem_of_getElem? (i := 85) rfl)))))), rfl⟩, wi_X8_odds, wv_X8_odds, wn_RX8, wc_X8_odds, by decide +kernel⟩
theorem wc_X7_storm : Cond.code yX7_storm cX7_storm 9 (some .int) ∈ wsG := List.mem_filter.mpr ⟨List.mem_append_right _ (List.mem_append_right _ (List.mem_append_right _ (List.mem_append_left _ (List.mem_of_getElem? (i := 193) rfl)))), rfl⟩
theorem wi_X7_storm : Cond.instanceMethod yX7_storm ∈ wsG := List.mem_filter.mpr ⟨List.mem_append_right _ (List.mem_append_right _ (List.mem_append_right _ (List.mem_append_left _ (List.mem_of_getElem? (i := 191) rfl)))), rfl⟩
theorem wv_X7_storm : Cond.selects yX7_storm.cls yX7_storm yX7_storm ∈ wsG := List.mem_filter.mpr ⟨List.mem_append_right _ (List.mem_append_right _ (List.mem_append_right _ (List.mem_append_left _ (List.mem_of_getElem? (i := 192) rfl)))), rfl⟩
theorem mv_RL_139 : MV RL 139 yX7_storm cX7_storm 9 (some .int) 4 := ⟨List.mem_filter.mpr ⟨List.mem_append_right _ (List.mem_append_right _ (List.mem_append_right _ (List.mem_append_left _ (List.mem_of_getElem? (i := 190) rfl)))), rfl⟩, wi_X7_storm, wv_X7_storm, wn_RX7, wc_X7_storm, by decide +kernel⟩
theorem wc_X8_storm : Cond.code yX8_storm cX8_storm 8 (some .int) ∈ wsG := List.mem_filter.mpr ⟨List.mem_append_right _ (List.mem_append_right _ (List.mem_append_right _ (List.mem_append_right _ (List.mem_append_right _ (List.mem_append_right _ (List.mem_of_getElem? (i := 96) rfl)))))), rfl⟩
theorem wi_X8_storm : Cond.instanceMethod yX8_storm ∈ wsG := List.mem_filter.mpr ⟨List.mem_append_right _ (List.mem_append_right _ (List.mem_append_right _ (List.mem_append_right _ (List.mem_append_right _ (List.mem_append_right _ (List.mem_of_getElem? (i := 94) rfl)))))), rfl⟩
theorem wv_X8_storm : Cond.selects yX8_storm.cls yX8_storm yX8_storm ∈ wsG := List.mem_filter.mpr ⟨List.mem_append_right _ (List.mem_append_right _ (List.mem_append_right _ (List.mem_append_right _ (List.mem_append_right _ (List.mem_append_right _ (List.mem_of_getElem? (i := 95) rfl)))))), rfl⟩
theorem mv_RL_143 : MV RL 143 yX8_storm cX8_storm 8 (some .int) 4 := ⟨List.mem_filter.mpr ⟨List.mem_append_right _ (List.mem_append_right _ (List.mem_append_right _ (List.mem_append_right _ (List.mem_append_right _ (List.mem_append_right _ (List.mem_of_getElem? (i := 93) rfl)))))), rfl⟩, wi_X8_storm, wv_X8_storm, wn_RX8, wc_X8_storm, by decide +kernel⟩
theorem wc_X7_halls : Cond.code yX7_halls cX7_halls 6 (some .int) ∈ wsG := List.mem_filter.mpr ⟨List.mem_append_right _ (List.mem_append_right _ (List.mem_append_right _ (List.mem_append_left _ (List.mem_of_getElem? (i := 206) rfl)))), rfl⟩
theorem wi_X7_halls : Cond.instanceMethod yX7_halls ∈ wsG := List.mem_filter.mpr ⟨List.mem_append_right _ (List.mem_append_right _ (List.mem_append_right _ (List.mem_append_left _ (List.mem_of_getElem? (i := 204) rfl)))), rfl⟩
theorem wv_X7_halls : Cond.selects yX7_halls.cls yX7_halls yX7_halls ∈ wsG := List.mem_filter.mpr ⟨List.mem_append_right _ (List.mem_append_right _ (List.mem_append_right _ (List.mem_append_left _ (List.mem_of_getElem? (i := 205) rfl)))), rfl⟩
theorem mv_RL_144 : MV RL 144 yX7_halls cX7_halls 6 (some .int) 3 := ⟨List.mem_filter.mpr ⟨List.mem_append_right _ (List.mem_append_right _ (List.mem_append_right _ (List.mem_append_left _ (List.mem_of_getElem? (i := 203) rfl)))), rfl⟩, wi_X7_halls, wv_X7_halls, wn_RX7, wc_X7_halls, by decide +kernel⟩
theorem wc_X8_halls : Cond.code yX8_halls cX8_halls 8 (some .int) ∈ wsG := List.mem_filter.mpr ⟨List.mem_append_right _ (List.mem_append_right _ (List.mem_append_right _ (List.mem_append_right _ (List.mem_append_right _ (List.mem_append_right _ (List.mem_of_getElem? (i := 112) rfl)))))), rfl⟩
theorem wi_X8_halls : Cond.instanceMethod yX8_halls ∈ wsG := List.mem_filter.mpr ⟨List.mem_append_right _ (List.mem_append_right _ (List.mem_append_right _ (List.mem_append_right _ (List.mem_append_right _ (List.mem_append_right _ (List.mem_of_getElem? (i := 110) rfl)))))), rfl⟩
theorem wv_X8_halls : Cond.selects yX8_halls.cls yX8_halls yX8_halls ∈ wsG := List.mem_filter.mpr ⟨List.mem_append_right _ (List.mem_append_right _ (List.mem_append_right _ (List.mem_append_right _ (List.mem_append_right _ (List.mem_append_right _ (List.mem_of_getElem? (i := 111) rfl)))))), rfl⟩
theorem mv_RL_147 : MV RL 147 yX8_halls cX8_halls 8 (some .int) 3 := ⟨List.mem_filter.mpr ⟨List.mem_append_right _ (List.mem_append_right _ (List.mem_append_right _ (List.mem_append_right _ (List.mem_append_right _ (List.mem_append_right _ (List.mem_of_getElem? (i := 109) rfl)))))), rfl⟩, wi_X8_halls, wv_X8_halls, wn_RX8, wc_X8_halls, by decide +kernel⟩
theorem wc_X7_quarry : Cond.code yX7_quarry cX7_quarry 3 (some .int) ∈ wsG := List.mem_filter.mpr ⟨List.mem_append_right _ (List.mem_append_right _ (List.mem_append_right _ (List.mem_append_left _ (List.mem_of_getElem? (i := 234) rfl)))), rfl⟩
theorem wi_X7_quarry : Cond.instanceMethod yX7_quarry ∈ wsG := List.mem_filter.mpr ⟨List.mem_append_right _ (List.mem_append_right _ (List.mem_append_right _ (List.mem_append_left _ (List.mem_of_getElem? (i := 232) rfl)))), rfl⟩
theorem wv_X7_quarry : Cond.selects yX7_quarry.cls yX7_quarry yX7_quarry ∈ wsG := List.mem_filter.mpr ⟨List.mem_append_right _ (List.mem_append_right _ (List.mem_append_right _ (List.mem_append_left _ (List.mem_of_getElem? (i := 233) rfl)))), rfl⟩
theorem mv_RL_148 : MV RL 148 yX7_quarry cX7_quarry 3 (some .int) 1 := ⟨List.mem_filter.mpr ⟨List.mem_append_right _ (List.mem_append_right _ (List.mem_append_right _ (List.mem_append_left _ (List.mem_of_getElem? (i := 231) rfl)))), rfl⟩, wi_X7_quarry, wv_X7_quarry, wn_RX7, wc_X7_quarry, by decide +kernel⟩
theorem wc_X8_quarry : Cond.code yX8_quarry cX8_quarry 4 (some .int) ∈ wsG := List.mem_filter.mpr ⟨List.mem_append_right _ (List.mem_append_right _ (List.mem_append_right _ (List.mem_append_right _ (List.mem_append_right _ (List.mem_append_right _ (List.mem_of_getElem? (i := 120) rfl)))))), rfl⟩
theorem wi_X8_quarry : Cond.instanceMethod yX8_quarry ∈ wsG := List.mem_filter.mpr ⟨List.mem_append_right _ (List.mem_append_right _ (List.mem_append_right _ (List.mem_append_right _ (List.mem_append_right _ (List.mem_append_right _ (List.mem_of_getElem? (i := 118) rfl)))))), rfl⟩
theorem wv_X8_quarry : Cond.selects yX8_quarry.cls yX8_quarry yX8_quarry ∈ wsG := List.mem_filter.mpr ⟨List.mem_append_right _ (List.mem_append_right _ (List.mem_append_right _ (List.mem_append_right _ (List.mem_append_right _ (List.mem_append_right _ (List.mem_of_getElem? (i := 119) rfl)))))), rfl⟩
theorem mv_RL_151 : MV RL 151 yX8_quarry cX8_quarry 4 (some .int) 1 := ⟨List.mem_filter.mpr ⟨List.mem_append_right _ (List.mem_append_right _ (List.mem_append_right _ (List.mem_append_right _ (List.mem_append_right _ (List.mem_append_right _ (List.mem_of_getElem? (i := 117) rfl)))))), rfl⟩, wi_X8_quarry, wv_X8_quarry, wn_RX8, wc_X8_quarry, by decide +kernel⟩
theorem wc_X7_air : Cond.code yX7_air cX7_air 8 (some .int) ∈ wsG := List.mem_filter.mpr ⟨List.mem_append_right _ (List.mem_append_right _ (List.mem_append_right _ (List.mem_append_left _ (List.mem_of_getElem? (i := 239) rfl)))), rfl⟩
theorem wi_X7_air : Cond.instanceMethod yX7_air ∈ wsG := List.mem_filter.mpr ⟨List.mem_append_right _ (List.mem_append_right _ (List.mem_append_right _ (List.mem_append_left _ (List.mem_of_getElem? (i := 237) rfl)))), rfl⟩
theorem wv_X7_air : Cond.selects yX7_air.cls yX7_air yX7_air ∈ wsG := List.mem_filter.mpr ⟨List.mem_append_right _ (List.mem_append_right _ (List.mem_append_right _ (List.mem_append_left _ (List.mem_of_getElem? (i := 238) rfl)))), rfl⟩
theorem mv_RL_152 : MV RL 152 yX7_air cX7_air 8 (some .int) 6 := ⟨List.mem_filter.mpr ⟨List.mem_append_right _ (List.mem_append_right _ (List.mem_append_right _ (List.mem_append_left _ (List.mem_of_getElem? (i := 236) rfl)))), rfl⟩, wi_X7_air, wv_X7_air, wn_RX7, wc_X7_air, by decide +kernel⟩
theorem wc_X8_air : Cond.code yX8_air cX8_air 7 (some .int) ∈ wsG := List.mem_filter.mpr ⟨List.mem_append_right _ (List.mem_append_right _ (List.mem_append_right _ (List.mem_append_right _ (List.mem_append_right _ (List.mem_append_right _ (List.mem_of_getElem? (i := 124) rfl)))))), rfl⟩
theorem wi_X8_air : Cond.instanceMethod yX8_air ∈ wsG := List.mem_filter.mpr ⟨List.mem_append_right _ (List.mem_append_right _ (List.mem_append_right _ (List.mem_append_right _ (List.mem_append_right _ (List.mem_append_right _ (List.mem_of_getElem? (i := 122) rfl)))))), rfl⟩
theorem wv_X8_air : Cond.selects yX8_air.cls yX8_air yX8_air ∈ wsG := List.mem_filter.mpr ⟨List.mem_append_right _ (List.mem_append_right _ (List.mem_append_right _ (List.mem_append_right _ (List.mem_append_right _ (List.mem_append_right _ (List.mem_of_getElem? (i := 123) rfl)))))), rfl⟩
theorem mv_RL_156 : MV RL 156 yX8_air cX8_air 7 (some .int) 6 := ⟨List.mem_filter.mpr ⟨List.mem_append_right _ (List.mem_append_right _ (List.mem_append_right _ (List.mem_append_right _ (List.mem_append_right _ (List.mem_append_right _ (List.mem_of_getElem? (i := 121) rfl)))))), rfl⟩, wi_X8_air, wv_X8_air, wn_RX8, wc_X8_air, by decide +kernel⟩
theorem wc_X7_layer : Cond.code yX7_layer cX7_layer 8 (some .int) ∈ wsG := List.mem_filter.mpr ⟨List.mem_append_right _ (List.mem_append_right _ (List.mem_append_right _ (List.mem_append_right _ (List.mem_append_left _ (List.mem_of_getElem? (i := 19) rfl))))), rfl⟩
theorem wi_X7_layer : Cond.instanceMethod yX7_layer ∈ wsG := List.mem_filter.mpr ⟨List.mem_append_right _ (List.mem_append_right _ (List.mem_append_right _ (List.mem_append_right _ (List.mem_append_left _ (List.mem_of_getElem? (i := 17) rfl))))), rfl⟩
theorem wv_X7_layer : Cond.selects yX7_layer.cls yX7_layer yX7_layer ∈ wsG := List.mem_filter.mpr ⟨List.mem_append_right _ (List.mem_append_right _ (List.mem_append_right _ (List.mem_append_right _ (List.mem_append_left _ (List.mem_of_getElem? (i := 18) rfl))))), rfl⟩
theorem mv_RL_157 : MV RL 157 yX7_layer cX7_layer 8 (some .int) 6 := ⟨List.mem_filter.mpr ⟨List.mem_append_right _ (List.mem_append_right _ (List.mem_append_right _ (List.mem_append_right _ (List.mem_append_left _ (List.mem_of_getElem? (i := 16) rfl))))), rfl⟩, wi_X7_layer, wv_X7_layer, wn_RX7, wc_X7_layer, by decide +kernel⟩
theorem wc_X8_layer : Cond.code yX8_layer cX8_layer 7 (some .int) ∈ wsG := List.mem_filter.mpr ⟨List.mem_append_right _ (List.mem_append_right _ (List.mem_append_right _ (List.mem_append_right _ (List.mem_append_right _ (List.mem_append_right _ (List.mem_of_getElem? (i := 143) rfl)))))), rfl⟩
theorem wi_X8_layer : Cond.instanceMethod yX8_layer ∈ wsG := List.mem_filter.mpr ⟨List.mem_append_right _ (List.mem_append_right _ (List.mem_append_right _ (List.mem_append_right _ (List.mem_append_right _ (List.mem_append_right _ (List.mem_of_getElem? (i := 141) rfl)))))), rfl⟩
theorem wv_X8_layer : Cond.selects yX8_layer.cls yX8_layer yX8_layer ∈ wsG := List.mem_filter.mpr ⟨List.mem_append_right _ (List.mem_append_right _ (List.mem_append_right _ (List.mem_append_right _ (List.mem_append_right _ (List.mem_append_right _ (List.mem_of_getElem? (i := 142) rfl)))))), rfl⟩
theorem mv_RL_160 : MV RL 160 yX8_layer cX8_layer 7 (some .int) 6 := ⟨List.mem_filter.mpr ⟨List.mem_append_right _ (List.mem_append_right _ (List.mem_append_right _ (List.mem_append_right _ (List.mem_append_right _ (List.mem_append_right _ (List.mem_of_getElem? (i := 140) rfl)))))), rfl⟩, wi_X8_layer, wv_X8_layer, wn_RX8, wc_X8_layer, by decide +kernel⟩
theorem wc_X7_hole : Cond.code yX7_hole cX7_hole 5 (some .int) ∈ wsG := List.mem_filter.mpr ⟨List.mem_append_right _ (List.mem_append_right _ (List.mem_append_right _ (List.mem_append_right _ (List.mem_append_left _ (List.mem_of_getElem? (i := 23) rfl))))), rfl⟩
theorem wi_X7_hole : Cond.instanceMethod yX7_hole ∈ wsG := List.mem_filter.mpr ⟨List.mem_append_right _ (List.mem_append_right _ (List.mem_append_right _ (List.mem_append_right _ (List.mem_append_left _ (List.mem_of_getElem? (i := 21) rfl))))), rfl⟩
theorem wv_X7_hole : Cond.selects yX7_hole.cls yX7_hole yX7_hole ∈ wsG := List.mem_filter.mpr ⟨List.mem_append_right _ (List.mem_append_right _ (List.mem_append_right _ (List.mem_append_right _ (List.mem_append_left _ (List.mem_of_getElem? (i := 22) rfl))))), rfl⟩
theorem mv_RL_161 : MV RL 161 yX7_hole cX7_hole 5 (some .int) 3 := ⟨List.mem_filter.mpr ⟨List.mem_append_right _ (List.mem_append_right _ (List.mem_append_right _ (List.mem_append_right _ (List.mem_append_left _ (List.mem_of_getElem? (i := 20) rfl))))), rfl⟩, wi_X7_hole, wv_X7_hole, wn_RX7, wc_X7_hole, by decide +kernel⟩
theorem wc_X8_hole : Cond.code yX8_hole cX8_hole 7 (some .int) ∈ wsG := List.mem_filter.mpr ⟨List.mem_append_right _ (List.mem_append_right _ (List.mem_append_right _ (List.mem_append_right _ (List.mem_append_right _ (List.mem_append_right _ (List.mem_of_getElem? (i := 147) rfl)))))), rfl⟩
theorem wi_X8_hole : Cond.instanceMethod yX8_hole ∈ wsG := List.mem_filter.mpr ⟨List.mem_append_right _ (List.mem_append_right _ (List.mem_append_right _ (List.mem_append_right _ (List.mem_append_right _ (List.mem_append_right _ (List.mem_of_getElem? (i := 145) rfl)))))), rfl⟩
theorem wv_X8_hole : Cond.selects yX8_hole.cls yX8_hole yX8_hole ∈ wsG := List.mem_filter.mpr ⟨List.mem_append_right _ (List.mem_append_right _ (List.mem_append_right _ (List.mem_append_right _ (List.mem_append_right _ (List.mem_append_right _ (List.mem_of_getElem? (i := 146) rfl)))))), rfl⟩
theorem mv_RL_164 : MV RL 164 yX8_hole cX8_hole 7 (some .int) 3 := ⟨List.mem_filter.mpr ⟨List.mem_append_right _ (List.mem_append_right _ (List.mem_append_right _ (List.mem_append_right _ (List.mem_append_right _ (List.mem_append_right _ (List.mem_of_getElem? (i := 144) rfl)))))), rfl⟩, wi_X8_hole, wv_X8_hole, wn_RX8, wc_X8_hole, by decide +kernel⟩
theorem wc_X7_drips : Cond.code yX7_drips cX7_drips 6 (some .int) ∈ wsG := List.mem_filter.mpr ⟨List.mem_append_right _ (List.mem_append_right _ (List.mem_append_right _ (List.mem_append_right _ (List.mem_append_left _ (List.mem_of_getElem? (i := 32) rfl))))), rfl⟩
theorem wi_X7_drips : Cond.instanceMethod yX7_drips ∈ wsG := List.mem_filter.mpr ⟨List.mem_append_right _ (List.mem_append_right _ (List.mem_append_right _ (List.mem_append_right _ (List.mem_append_left _ (List.mem_of_getElem? (i := 30) rfl))))), rfl⟩
theorem wv_X7_drips : Cond.selects yX7_drips.cls yX7_drips yX7_drips ∈ wsG := List.mem_filter.mpr ⟨List.mem_append_right _ (List.mem_append_right _ (List.mem_append_right _ (List.mem_append_right _ (List.mem_append_left _ (List.mem_of_getElem? (i := 31) rfl))))), rfl⟩
theorem mv_RL_165 : MV RL 165 yX7_drips cX7_drips 6 (some .int) 3 := ⟨List.mem_filter.mpr ⟨List.mem_append_right _ (List.mem_append_right _ (List.mem_append_right _ (List.mem_append_right _ (List.mem_append_left _ (List.mem_of_getElem? (i := 29) rfl))))), rfl⟩, wi_X7_drips, wv_X7_drips, wn_RX7, wc_X7_drips, by decide +kernel⟩
theorem wc_X8_drips : Cond.code yX8_drips cX8_drips 8 (some .int) ∈ wsG := List.mem_filter.mpr ⟨List.mem_append_right _ (List.mem_append_right _ (List.mem_append_right _ (List.mem_append_right _ (List.mem_append_right _ (List.mem_append_right _ (List.mem_of_getElem? (i := 151) rfl)))))), rfl⟩
theorem wi_X8_drips : Cond.instanceMethod yX8_drips ∈ wsG := List.mem_filter.mpr ⟨List.mem_append_right _ (List.mem_append_right _ (List.mem_append_right _ (List.mem_append_right _ (List.mem_append_right _ (List.mem_append_right _ (List.mem_of_getElem? (i := 149) rfl)))))), rfl⟩
theorem wv_X8_drips : Cond.selects yX8_drips.cls yX8_drips yX8_drips ∈ wsG := List.mem_filter.mpr ⟨List.mem_append_right _ (List.mem_append_right _ (List.mem_append_right _ (List.mem_append_right _ (List.mem_append_right _ (List.mem_append_right _ (List.mem_of_getElem? (i := 150) rfl)))))), rfl⟩
theorem mv_RL_168 : MV RL 168 yX8_drips cX8_drips 8 (some .int) 3 := ⟨List.mem_filter.mpr ⟨List.mem_append_right _ (List.mem_append_right _ (List.mem_append_right _ (List.mem_append_right _ (List.mem_append_right _ (List.mem_append_right _ (List.mem_of_getElem? (i := 148) rfl)))))), rfl⟩, wi_X8_drips, wv_X8_drips, wn_RX8, wc_X8_drips, by decide +kernel⟩
theorem wc_X7_lasts : Cond.code yX7_lasts cX7_lasts 5 (some .int) ∈ wsG := List.mem_filter.mpr ⟨List.mem_append_right _ (List.mem_append_right _ (List.mem_append_right _ (List.mem_append_right _ (List.mem_append_left _ (List.mem_of_getElem? (i := 40) rfl))))), rfl⟩
theorem wi_X7_lasts : Cond.instanceMethod yX7_lasts ∈ wsG := List.mem_filter.mpr ⟨List.mem_append_right _ (List.mem_append_right _ (List.mem_append_right _ (List.mem_append_right _ (List.mem_append_left _ (List.mem_of_getElem? (i := 38) rfl))))), rfl⟩
theorem wv_X7_lasts : Cond.selects yX7_lasts.cls yX7_lasts yX7_lasts ∈ wsG := List.mem_filter.mpr ⟨List.mem_append_right _ (List.mem_append_right _ (List.mem_append_right _ (List.mem_append_right _ (List.mem_append_left _ (List.mem_of_getElem? (i := 39) rfl))))), rfl⟩
theorem mv_RL_169 : MV RL 169 yX7_lasts cX7_lasts 5 (some .int) 3 := ⟨List.mem_filter.mpr ⟨List.mem_append_right _ (List.mem_append_right _ (List.mem_append_right _ (List.mem_append_right _ (List.mem_append_left _ (List.mem_of_getElem? (i := 37) rfl))))), rfl⟩, wi_X7_lasts, wv_X7_lasts, wn_RX7, wc_X7_lasts, by decide +kernel⟩
theorem wc_X8_lasts : Cond.code yX8_lasts cX8_lasts 5 (some .int) ∈ wsG := List.mem_filter.mpr ⟨List.mem_append_right _ (List.mem_append_right _ (List.mem_append_right _ (List.mem_append_right _ (List.mem_append_right _ (List.mem_append_right _ (List.mem_of_getElem? (i := 155) rfl)))))), rfl⟩
theorem wi_X8_lasts : Cond.instanceMethod yX8_lasts ∈ wsG := List.mem_filter.mpr ⟨List.mem_append_right _ (List.mem_append_right _ (List.mem_append_right _ (List.mem_append_right _ (List.mem_append_right _ (List.mem_append_right _ (List.mem_of_getElem? (i := 153) rfl)))))), rfl⟩
theorem wv_X8_lasts : Cond.selects yX8_lasts.cls yX8_lasts yX8_lasts ∈ wsG := List.mem_filter.mpr ⟨List.mem_append_right _ (List.mem_append_right _ (List.mem_append_right _ (List.mem_append_right _ (List.mem_append_right _ (List.mem_append_right _ (List.mem_of_getElem? (i := 154) rfl)))))), rfl⟩
theorem mv_RL_172 : MV RL 172 yX8_lasts cX8_lasts 5 (some .int) 3 := ⟨List.mem_filter.mpr ⟨List.mem_append_right _ (List.mem_append_right _ (List.mem_append_right _ (List.mem_append_right _ (List.mem_append_right _ (List.mem_append_right _ (List.mem_of_getElem? (i := 152) rfl)))))), rfl⟩, wi_X8_lasts, wv_X8_lasts, wn_RX8, wc_X8_lasts, by decide +kernel⟩
theorem wc_X7_scrape : Cond.code yX7_scrape cX7_scrape 7 (some .int) ∈ wsG := List.mem_filter.mpr ⟨List.mem_append_right _ (List.mem_append_right _ (List.mem_append_right _ (List.mem_append_right _ (List.mem_append_left _ (List.mem_of_getElem? (i := 48) rfl))))), rfl⟩
theorem wi_X7_scrape : Cond.instanceMethod yX7_scrape ∈ wsG := List.mem_filter.mpr ⟨List.mem_append_right _ (List.mem_append_right _ (List.mem_append_right _ (List.mem_append_right _ (List.mem_append_left _ (List.mem_of_getElem? (i := 46) rfl))))), rfl⟩
theorem wv_X7_scrape : Cond.selects yX7_scrape.cls yX7_scrape yX7_scrape ∈ wsG := List.mem_filter.mpr ⟨List.mem_append_right _ (List.mem_append_right _ (List.mem_append_right _ (List.mem_append_right _ (List.mem_append_left _ (List.mem_of_getElem? (i := 47) rfl))))), rfl⟩
theorem mv_RL_173 : MV RL 173 yX7_scrape cX7_scrape 7 (some .int) 2 := ⟨List.mem_filter.mpr ⟨List.mem_append_right _ (List.mem_append_right _ (List.mem_append_right _ (List.mem_append_right _ (List.mem_append_left _ (List.mem_of_getElem? (i := 45) rfl))))), rfl⟩, wi_X7_scrape, wv_X7_scrape, wn_RX7, wc_X7_scrape, by decide +kernel⟩
theorem wc_X8_scrape : Cond.code yX8_scrape cX8_scrape 7 (some .int) ∈ wsG := List.mem_filter.mpr ⟨List.mem_append_right _ (List.mem_append_right _ (List.mem_append_right _ (List.mem_append_right _ (List.mem_append_right _ (List.mem_append_right _ (List.mem_of_getElem? (i := 163) rfl)))))), rfl⟩
theorem wi_X8_scrape : Cond.instanceMethod yX8_scrape ∈ wsG := List.mem_filter.mpr ⟨List.mem_append_right _ (List.mem_append_right _ (List.mem_append_right _ (List.mem_append_right _ (List.mem_append_right _ (List.mem_append_right _ (List.mem_of_getElem? (i := 161) rfl)))))), rfl⟩
theorem wv_X8_scrape : Cond.selects yX8_scrape.cls yX8_scrape yX8_scrape ∈ wsG := List.mem_filter.mpr ⟨List.mem_append_right _ (List.mem_append_right _ (List.mem_append_right _ (List.mem_append_right _ (List.mem_append_right _ (List.mem_append_right _ (List.mem_of_getElem? (i := 162) rfl)))))), rfl⟩
theorem mv_RL_176 : MV RL 176 yX8_scrape cX8_scrape 7 (some .int) 2 := ⟨List.mem_filter.mpr ⟨List.mem_append_right _ (List.mem_append_right _ (List.mem_append_right _ (List.mem_append_right _ (List.mem_append_right _ (List.mem_append_right _ (List.mem_of_getElem? (i := 160) rfl)))))), rfl⟩, wi_X8_scrape, wv_X8_scrape, wn_RX8, wc_X8_scrape, by decide +kernel⟩
theorem wc_X7_asked : Cond.code yX7_asked cX7_asked 1 (some .int) ∈ wsG := List.mem_filter.mpr ⟨List.mem_append_right _ (List.mem_append_right _ (List.mem_append_right _ (List.mem_append_right _ (List.mem_append_left _ (List.mem_of_getElem? (i := 52) rfl))))), rfl⟩
theorem wi_X7_asked : Cond.instanceMethod yX7_asked ∈ wsG := List.mem_filter.mpr ⟨List.mem_append_right _ (List.mem_append_right _ (List.mem_append_right _ (List.mem_append_right _ (List.mem_append_left _ (List.mem_of_getElem? (i := 50) rfl))))), rfl⟩
theorem wv_X7_asked : Cond.selects yX7_asked.cls yX7_asked yX7_asked ∈ wsG := List.mem_filter.mpr ⟨List.mem_append_right _ (List.mem_append_right _ (List.mem_append_right _ (List.mem_append_right _ (List.mem_append_left _ (List.mem_of_getElem? (i := 51) rfl))))), rfl⟩
theorem mv_RL_177 : MV RL 177 yX7_asked cX7_asked 1 (some .int) 0 := ⟨List.mem_filter.mpr ⟨List.mem_append_right _ (List.mem_append_right _ (List.mem_append_right _ (List.mem_append_right _ (List.mem_append_left _ (List.mem_of_getElem? (i := 49) rfl))))), rfl⟩, wi_X7_asked, wv_X7_asked, wn_RX7, wc_X7_asked, by decide +kernel⟩
theorem wc_X8_asked : Cond.code yX8_asked cX8_asked 1 (some .int) ∈ wsG := List.mem_filter.mpr ⟨List.mem_append_right _ (List.mem_append_right _ (List.mem_append_right _ (List.mem_append_right _ (List.mem_append_left _ (List.mem_of_getElem? (i := 225) rfl))))), rfl⟩
theorem wi_X8_asked : Cond.instanceMethod yX8_asked ∈ wsG := List.mem_filter.mpr ⟨List.mem_append_right _ (List.mem_append_right _ (List.mem_append_right _ (List.mem_append_right _ (List.mem_append_left _ (List.mem_of_getElem? (i := 223) rfl))))), rfl⟩
theorem wv_X8_asked : Cond.selects yX8_asked.cls yX8_asked yX8_asked ∈ wsG := List.mem_filter.mpr ⟨List.mem_append_right _ (List.mem_append_right _ (List.mem_append_right _ (List.mem_append_right _ (List.mem_append_left _ (List.mem_of_getElem? (i := 224) rfl))))), rfl⟩
theorem mv_RL_180 : MV RL 180 yX8_asked cX8_asked 1 (some .int) 0 := ⟨List.mem_filter.mpr ⟨List.mem_append_right _ (List.mem_append_right _ (List.mem_append_right _ (List.mem_append_right _ (List.mem_append_left _ (List.mem_of_getElem? (i := 222) rfl))))), rfl⟩, wi_X8_asked, wv_X8_asked, wn_RX8, wc_X8_asked, by decide +kernel⟩
theorem wc_X7_upper : Cond.code yX7_upper cX7_upper 1 (some .long) ∈ wsG := List.mem_filter.mpr ⟨List.mem_append_right _ (List.mem_append_right _ (List.mem_append_right _ (List.mem_append_right _ (List.mem_append_left _ (List.mem_of_getElem? (i := 56) rfl))))), rfl⟩
theorem wi_X7_upper : Cond.instanceMethod yX7_upper ∈ wsG := List.mem_filter.mpr ⟨List.mem_append_right _ (List.mem_append_right _ (List.mem_append_right _ (List.mem_append_right _ (List.mem_append_left _ (List.mem_of_getElem? (i := 54) rfl))))), rfl⟩
theorem wv_X7_upper : Cond.selects yX7_upper.cls yX7_upper yX7_upper ∈ wsG := List.mem_filter.mpr ⟨List.mem_append_right _ (List.mem_append_right _ (List.mem_append_right _ (List.mem_append_right _ (List.mem_append_left _ (List.mem_of_getElem? (i := 55) rfl))))), rfl⟩
theorem mv_RL_181 : MV RL 181 yX7_upper cX7_upper 1 (some .long) 0 := ⟨List.mem_filter.mpr ⟨List.mem_append_right _ (List.mem_append_right _ (List.mem_append_right _ (List.mem_append_right _ (List.mem_append_left _ (List.mem_of_getElem? (i := 53) rfl))))), rfl⟩, wi_X7_upper, wv_X7_upper, wn_RX7, wc_X7_upper, by decide +kernel⟩
theorem wc_X8_upper : Cond.code yX8_upper cX8_upper 1 (some .long) ∈ wsG := List.mem_filter.mpr ⟨List.mem_append_right _ (List.mem_append_right _ (List.mem_append_right _ (List.mem_append_right _ (List.mem_append_left _ (List.mem_of_getElem? (i := 229) rfl))))), rfl⟩
theorem wi_X8_upper : Cond.instanceMethod yX8_upper ∈ wsG := List.mem_filter.mpr ⟨List.mem_append_right _ (List.mem_append_right _ (List.mem_append_right _ (List.mem_append_right _ (List.mem_append_left _ (List.mem_of_getElem? (i := 227) rfl))))), rfl⟩
theorem wv_X8_upper : Cond.selects yX8_upper.cls yX8_upper yX8_upper ∈ wsG := List.mem_filter.mpr ⟨List.mem_append_right _ (List.mem_append_right _ (List.mem_append_right _ (List.mem_append_right _ (List.mem_append_left _ (List.mem_of_getElem? (i := 228) rfl))))), rfl⟩
theorem mv_RL_185 : MV RL 185 yX8_upper cX8_upper 1 (some .long) 0 := ⟨List.mem_filter.mpr ⟨List.mem_append_right _ (List.mem_append_right _ (List.mem_append_right _ (List.mem_append_right _ (List.mem_append_left _ (List.mem_of_getElem? (i := 226) rfl))))), rfl⟩, wi_X8_upper, wv_X8_upper, wn_RX8, wc_X8_upper, by decide +kernel⟩
theorem wc_X7_lower : Cond.code yX7_lower cX7_lower 1 (some .long) ∈ wsG := List.mem_filter.mpr ⟨List.mem_append_right _ (List.mem_append_right _ (List.mem_append_right _ (List.mem_append_right _ (List.mem_append_left _ (List.mem_of_getElem? (i := 60) rfl))))), rfl⟩
theorem wi_X7_lower : Cond.instanceMethod yX7_lower ∈ wsG := List.mem_filter.mpr ⟨List.mem_append_right _ (List.mem_append_right _ (List.mem_append_right _ (List.mem_append_right _ (List.mem_append_left _ (List.mem_of_getElem? (i := 58) rfl))))), rfl⟩
theorem wv_X7_lower : Cond.selects yX7_lower.cls yX7_lower yX7_lower ∈ wsG := List.mem_filter.mpr ⟨List.mem_append_right _ (List.mem_append_right _ (List.mem_append_right _ (List.mem_append_right _ (List.mem_append_left _ (List.mem_of_getElem? (i := 59) rfl))))), rfl⟩
theorem mv_RL_186 : MV RL 186 yX7_lower cX7_lower 1 (some .long) 0 := ⟨List.mem_filter.mpr ⟨List.mem_append_right _ (List.mem_append_right _ (List.mem_append_right _ (List.mem_append_right _ (List.mem_append_left _ (List.mem_of_getElem? (i := 57) rfl))))), rfl⟩, wi_X7_lower, wv_X7_lower, wn_RX7, wc_X7_lower, by decide +kernel⟩
theorem wc_X8_lower : Cond.code yX8_lower cX8_lower 1 (some .long) ∈ wsG := List.mem_filter.mpr ⟨List.mem_append_right _ (List.mem_append_right _ (List.mem_append_right _ (List.mem_append_right _ (List.mem_append_left _ (List.mem_of_getElem? (i := 233) rfl))))), rfl⟩
theorem wi_X8_lower : Cond.instanceMethod yX8_lower ∈ wsG := List.mem_filter.mpr ⟨List.mem_append_right _ (List.mem_append_right _ (List.mem_append_right _ (List.mem_append_right _ (List.mem_append_left _ (List.mem_of_getElem? (i := 231) rfl))))), rfl⟩
theorem wv_X8_lower : Cond.selects yX8_lower.cls yX8_lower yX8_lower ∈ wsG := List.mem_filter.mpr ⟨List.mem_append_right _ (List.mem_append_right _ (List.mem_append_right _ (List.mem_append_right _ (List.mem_append_left _ (List.mem_of_getElem? (i := 232) rfl))))), rfl⟩
theorem mv_RL_189 : MV RL 189 yX8_lower cX8_lower 1 (some .long) 0 := ⟨List.mem_filter.mpr ⟨List.mem_append_right _ (List.mem_append_right _ (List.mem_append_right _ (List.mem_append_right _ (List.mem_append_left _ (List.mem_of_getElem? (i := 230) rfl))))), rfl⟩, wi_X8_lower, wv_X8_lower, wn_RX8, wc_X8_lower, by decide +kernel⟩
theorem wc_X7_count : Cond.code yX7_count cX7_count 2 (some .int) ∈ wsG := List.mem_filter.mpr ⟨List.mem_append_right _ (List.mem_append_right _ (List.mem_append_right _ (List.mem_append_right _ (List.mem_append_left _ (List.mem_of_getElem? (i := 64) rfl))))), rfl⟩
theorem wi_X7_count : Cond.instanceMethod yX7_count ∈ wsG := List.mem_filter.mpr ⟨List.mem_append_right _ (List.mem_append_right _ (List.mem_append_right _ (List.mem_append_right _ (List.mem_append_left _ (List.mem_of_getElem? (i := 62) rfl))))), rfl⟩
theorem wv_X7_count : Cond.selects yX7_count.cls yX7_count yX7_count ∈ wsG := List.mem_filter.mpr ⟨List.mem_append_right _ (List.mem_append_right _ (List.mem_append_right _ (List.mem_append_right _ (List.mem_append_left _ (List.mem_of_getElem? (i := 63) rfl))))), rfl⟩
theorem mv_RL_190 : MV RL 190 yX7_count cX7_count 2 (some .int) 1 := ⟨List.mem_filter.mpr ⟨List.mem_append_right _ (List.mem_append_right _ (List.mem_append_right _ (List.mem_append_right _ (List.mem_append_left _ (List.mem_of_getElem? (i := 61) rfl))))), rfl⟩, wi_X7_count, wv_X7_count, wn_RX7, wc_X7_count, by decide +kernel⟩
theorem wc_X8_count : Cond.code yX8_count cX8_count 2 (some .int) ∈ wsG := List.mem_filter.mpr ⟨List.mem_append_right _ (List.mem_append_right _ (List.mem_append_right _ (List.mem_append_right _ (List.mem_append_right _ (List.mem_append_right _ (List.mem_of_getElem? (i := 167) rfl)))))), rfl⟩
theorem wi_X8_count : Cond.instanceMethod yX8_count ∈ wsG := List.mem_filter.mpr ⟨List.mem_append_right _ (List.mem_append_right _ (List.mem_append_right _ (List.mem_append_right _ (List.mem_append_right _ (List.mem_append_right _ (List.mem_of_getElem? (i := 165) rfl)))))), rfl⟩
theorem wv_X8_count : Cond.selects yX8_count.cls yX8_count yX8_count ∈ wsG := List.mem_filter.mpr ⟨List.mem_append_right _ (List.mem_append_right _ (List.mem_append_right _ (List.mem_append_right _ (List.mem_append_right _ (List.mem_append_right _ (List.mem_of_getElem? (i := 166) rfl)))))), rfl⟩
theorem mv_RL_193 : MV RL 193 yX8_count cX8_count 2 (some .int) 1 := ⟨List.mem_filter.mpr ⟨List.mem_append_right _ (List.mem_append_right _ (List.mem_append_right _ (List.mem_append_right _ (List.mem_append_right _ (List.mem_append_right _ (List.mem_of_getElem? (i := 164) rfl)))))), rfl⟩, wi_X8_count, wv_X8_count, wn_RX8, wc_X8_count, by decide +kernel⟩
theorem wc_X7_finding : Cond.code yX7_finding cX7_finding 1 (some .int) ∈ wsG := List.mem_filter.mpr ⟨List.mem_append_right _ (List.mem_append_right _ (List.mem_append_right _ (List.mem_append_right _ (List.mem_append_left _ (List.mem_of_getElem? (i := 87) rfl))))), rfl⟩
theorem wi_X7_finding : Cond.instanceMethod yX7_finding ∈ wsG := List.mem_filter.mpr ⟨List.mem_append_right _ (List.mem_append_right _ (List.mem_append_right _ (List.mem_append_right _ (List.mem_append_left _ (List.mem_of_getElem? (i := 85) rfl))))), rfl⟩
theorem wv_X7_finding : Cond.selects yX7_finding.cls yX7_finding yX7_finding ∈ wsG := List.mem_filter.mpr ⟨List.mem_append_right _ (List.mem_append_right _ (List.mem_append_right _ (List.mem_append_right _ (List.mem_append_left _ (List.mem_of_getElem? (i := 86) rfl))))), rfl⟩
theorem mv_RL_194 : MV RL 194 yX7_finding cX7_finding 1 (some .int) 0 := ⟨List.mem_filter.mpr ⟨List.mem_append_right _ (List.mem_append_right _ (List.mem_append_right _ (List.mem_append_right _ (List.mem_append_left _ (List.mem_of_getElem? (i := 84) rfl))))), rfl⟩, wi_X7_finding, wv_X7_finding, wn_RX7, wc_X7_finding, by decide +kernel⟩
theorem wc_X8_finding : Cond.code yX8_finding cX8_finding 1 (some .int) ∈ wsG := List.mem_filter.mpr ⟨List.mem_append_right _ (List.mem_append_right _ (List.mem_append_right _ (List.mem_append_right _ (List.mem_append_left _ (List.mem_of_getElem? (i := 214) rfl))))), rfl⟩
theorem wi_X8_finding : Cond.instanceMethod yX8_finding ∈ wsG := List.mem_filter.mpr ⟨List.mem_append_right _ (List.mem_append_right _ (List.mem_append_right _ (List.mem_append_right _ (List.mem_append_left _ (List.mem_of_getElem? (i := 212) rfl))))), rfl⟩
theorem wv_X8_finding : Cond.selects yX8_finding.cls yX8_finding yX8_finding ∈ wsG := List.mem_filter.mpr ⟨List.mem_append_right _ (List.mem_append_right _ (List.mem_append_right _ (List.mem_append_right _ (List.mem_append_left _ (List.mem_of_getElem? (i := 213) rfl))))), rfl⟩
theorem mv_RL_197 : MV RL 197 yX8_finding cX8_finding 1 (some .int) 0 := ⟨List.mem_filter.mpr ⟨List.mem_append_right _ (List.mem_append_right _ (List.mem_append_right _ (List.mem_append_right _ (List.mem_append_left _ (List.mem_of_getElem? (i := 211) rfl))))), rfl⟩, wi_X8_finding, wv_X8_finding, wn_RX8, wc_X8_finding, by decide +kernel⟩
theorem wc_X7_findings : Cond.code yX7_findings cX7_findings 2 (some .int) ∈ wsG := List.mem_filter.mpr ⟨List.mem_append_right _ (List.mem_append_right _ (List.mem_append_right _ (List.mem_append_right _ (List.mem_append_left _ (List.mem_of_getElem? (i := 91) rfl))))), rfl⟩
theorem wi_X7_findings : Cond.instanceMethod yX7_findings ∈ wsG := List.mem_filter.mpr ⟨List.mem_append_right _ (List.mem_append_right _ (List.mem_append_right _ (List.mem_append_right _ (List.mem_append_left _ (List.mem_of_getElem? (i := 89) rfl))))), rfl⟩
theorem wv_X7_findings : Cond.selects yX7_findings.cls yX7_findings yX7_findings ∈ wsG := List.mem_filter.mpr ⟨List.mem_append_right _ (List.mem_append_right _ (List.mem_append_right _ (List.mem_append_right _ (List.mem_append_left _ (List.mem_of_getElem? (i := 90) rfl))))), rfl⟩
theorem mv_RL_198 : MV RL 198 yX7_findings cX7_findings 2 (some .int) 1 := ⟨List.mem_filter.mpr ⟨List.mem_append_right _ (List.mem_append_right _ (List.mem_append_right _ (List.mem_append_right _ (List.mem_append_left _ (List.mem_of_getElem? (i := 88) rfl))))), rfl⟩, wi_X7_findings, wv_X7_findings, wn_RX7, wc_X7_findings, by decide +kernel⟩
theorem wc_X8_findings : Cond.code yX8_findings cX8_findings 2 (some .int) ∈ wsG := List.mem_filter.mpr ⟨List.mem_append_right _ (List.mem_append_right _ (List.mem_append_right _ (List.mem_append_right _ (List.mem_append_left _ (List.mem_of_getElem? (i := 218) rfl))))), rfl⟩
theorem wi_X8_findings : Cond.instanceMethod yX8_findings ∈ wsG := List.mem_filter.mpr ⟨List.mem_append_right _ (List.mem_append_right _ (List.mem_append_right _ (List.mem_append_right _ (List.mem_append_left _ (List.mem_of_getElem? (i := 216) rfl))))), rfl⟩
theorem wv_X8_findings : Cond.selects yX8_findings.cls yX8_findings yX8_findings ∈ wsG := List.mem_filter.mpr ⟨List.mem_append_right _ (List.mem_append_right _ (List.mem_append_right _ (List.mem_append_right _ (List.mem_append_left _ (List.mem_of_getElem? (i := 217) rfl))))), rfl⟩
theorem mv_RL_201 : MV RL 201 yX8_findings cX8_findings 2 (some .int) 1 := ⟨List.mem_filter.mpr ⟨List.mem_append_right _ (List.mem_append_right _ (List.mem_append_right _ (List.mem_append_right _ (List.mem_append_left _ (List.mem_of_getElem? (i := 215) rfl))))), rfl⟩, wi_X8_findings, wv_X8_findings, wn_RX8, wc_X8_findings, by decide +kernel⟩
theorem wc_X7_digest : Cond.code yX7_digest cX7_digest 5 (some .long) ∈ wsG := List.mem_filter.mpr ⟨List.mem_append_right _ (List.mem_append_right _ (List.mem_append_right _ (List.mem_append_right _ (List.mem_append_left _ (List.mem_of_getElem? (i := 95) rfl))))), rfl⟩
theorem wi_X7_digest : Cond.instanceMethod yX7_digest ∈ wsG := List.mem_filter.mpr ⟨List.mem_append_right _ (List.mem_append_right _ (List.mem_append_right _ (List.mem_append_right _ (List.mem_append_left _ (List.mem_of_getElem? (i := 93) rfl))))), rfl⟩
theorem wv_X7_digest : Cond.selects yX7_digest.cls yX7_digest yX7_digest ∈ wsG := List.mem_filter.mpr ⟨List.mem_append_right _ (List.mem_append_right _ (List.mem_append_right _ (List.mem_append_right _ (List.mem_append_left _ (List.mem_of_getElem? (i := 94) rfl))))), rfl⟩
theorem mv_RL_202 : MV RL 202 yX7_digest cX7_digest 5 (some .long) 0 := ⟨List.mem_filter.mpr ⟨List.mem_append_right _ (List.mem_append_right _ (List.mem_append_right _ (List.mem_append_right _ (List.mem_append_left _ (List.mem_of_getElem? (i := 92) rfl))))), rfl⟩, wi_X7_digest, wv_X7_digest, wn_RX7, wc_X7_digest, by decide +kernel⟩
theorem wc_X8_digest : Cond.code yX8_digest cX8_digest 3 (some .long) ∈ wsG := List.mem_filter.mpr ⟨List.mem_append_right _ (List.mem_append_right _ (List.mem_append_right _ (List.mem_append_right _ (List.mem_append_right _ (List.mem_append_right _ (List.mem_of_getElem? (i := 175) rfl)))))), rfl⟩
theorem wi_X8_digest : Cond.instanceMethod yX8_digest ∈ wsG := List.mem_filter.mpr ⟨List.mem_append_right _ (List.mem_append_right _ (List.mem_append_right _ (List.mem_append_right _ (List.mem_append_right _ (List.mem_append_right _ (List.mem_of_getElem? (i := 173) rfl)))))), rfl⟩
theorem wv_X8_digest : Cond.selects yX8_digest.cls yX8_digest yX8_digest ∈ wsG := List.mem_filter.mpr ⟨List.mem_append_right _ (List.mem_append_right _ (List.mem_append_right _ (List.mem_append_right _ (List.mem_append_right _ (List.mem_append_right _ (List.mem_of_getElem? (i := 174) rfl)))))), rfl⟩
theorem mv_RL_205 : MV RL 205 yX8_digest cX8_digest 3 (some .long) 0 := ⟨List.mem_filter.mpr ⟨List.mem_append_right _ (List.mem_append_right _ (List.mem_append_right _ (List.mem_append_right _ (List.mem_append_right _ (List.mem_append_right _ (List.mem_of_getElem? (i := 172) rfl)))))), rfl⟩, wi_X8_digest, wv_X8_digest, wn_RX8, wc_X8_digest, by decide +kernel⟩
theorem kb_63 : (Int8.ofInt (63)).toInt32 = 63 := by decide
theorem ki_7 (x : Int32) : x + Int32.ofInt (7) = x + (7 : Int32) := by rw [show Int32.ofInt (7) = (7 : Int32) by decide]
set_option maxRecDepth 20000 in
theorem lc_row {p : Program} {l : Launch} {e : Env} {s : State} {m : MethodId} {below : List Frame} {meth : Method} {c : Code} {w : WK} {b L cells slots : Nat} {xs : Nat → Int32} {Inv : TT → Prop} {i : Nat} {h : TT} (X : LX p s m meth c w b L cells slots xs) (hi : i + 7 ≤ L) (hS : ST_row Inv) (hI : Inv h) (kk : ∀ h2, Inv h2 → GL p l e s m below meth c w b cells slots 1643 [(0, .ref b), (1, .ref (w.2.1 0)), (2, .ref (w.2.1 147)), (3, .int (nI i))] [] h2) : GL p l e s m below meth c w b cells slots 232 [(0, .ref b), (1, .ref (w.2.1 0)), (2, .ref (w.2.1 147)), (3, .int (nI i))] [] h := by
  obtain ⟨r, h1, h2, e1, e2, e3⟩ := hS h hI (xs (nI i + 1).toNatClampNeg) (xs (nI i + 2).toNatClampNeg)
  refine l_aload_n (pc := 232) X 1 rfl dL_law_232 rfl ?_
  refine l_aload_n (pc := 233) X 0 rfl dL_law_233 rfl ?_
  refine l_iload_n (pc := 234) X 3 rfl dL_law_234 rfl ?_
  refine l_iconst (pc := 235) (v := 1) X dL_law_235 kc_1 ?_
  refine l_iadd (pc := 236) X dL_law_236 ?_
  refine l_sld (pc := 237) X (in_k hi X.2.2.2.1 1 kn_1 (by decide)) dL_law_237 ?_
  refine l_aload_n (pc := 238) X 0 rfl dL_law_238 rfl ?_
  refine l_iload_n (pc := 239) X 3 rfl dL_law_239 rfl ?_
  refine l_iconst (pc := 240) (v := 2) X dL_law_240 kc_2 ?_
  refine l_iadd (pc := 241) X dL_law_241 ?_
  refine l_sld (pc := 242) X (in_k hi X.2.2.2.1 2 kn_2 (by decide)) dL_law_242 ?_
  refine l_call (pc := 243) (x1 := (some (.int r), h1)) (rest := []) X mv_RL_13 (m_X7_row e1) so_RX7 rfl (by decide) rfl rfl (Nat.le_of_ble_eq_true rfl) dL_law_243 ?_
  show GL p l e s m below meth c w b cells slots 246 [(0, .ref b), (1, .ref (w.2.1 0)), (2, .ref (w.2.1 147)), (3, .int (nI i))] [.int r] h1
  refine l_aload_n (pc := 246) X 2 rfl dL_law_246 rfl ?_
  refine l_aload_n (pc := 247) X 0 rfl dL_law_247 rfl ?_
  refine l_iload_n (pc := 248) X 3 rfl dL_law_248 rfl ?_
  refine l_iconst (pc := 249) (v := 1) X dL_law_249 kc_1 ?_
  refine l_iadd (pc := 250) X dL_law_250 ?_
  refine l_sld (pc := 251) X (in_k hi X.2.2.2.1 1 kn_1 (by decide)) dL_law_251 ?_
  refine l_aload_n (pc := 252) X 0 rfl dL_law_252 rfl ?_
  refine l_iload_n (pc := 253) X 3 rfl dL_law_253 rfl ?_
  refine l_iconst (pc := 254) (v := 2) X dL_law_254 kc_2 ?_
  refine l_iadd (pc := 255) X dL_law_255 ?_
  refine l_sld (pc := 256) X (in_k hi X.2.2.2.1 2 kn_2 (by decide)) dL_law_256 ?_
  refine l_call (pc := 257) (x1 := (some (.int r), h2)) (rest := [.int r]) X mv_RL_17 (m_X8_row e2) so_RX8 rfl (by decide) rfl rfl (Nat.le_of_ble_eq_true rfl) dL_law_257 ?_
  show GL p l e s m below meth c w b cells slots 260 [(0, .ref b), (1, .ref (w.2.1 0)), (2, .ref (w.2.1 147)), (3, .int (nI i))] [.int r, .int r] h2
  refine l_eq (pc := 260) (tgt := 1643) X dL_law_260 (by decide) rfl ?_
  exact kk _ e3
set_option maxRecDepth 20000 in
theorem lc_lay {p : Program} {l : Launch} {e : Env} {s : State} {m : MethodId} {below : List Frame} {meth : Method} {c : Code} {w : WK} {b L cells slots : Nat} {xs : Nat → Int32} {Inv : TT → Prop} {i : Nat} {h : TT} (X : LX p s m meth c w b L cells slots xs) (hi : i + 7 ≤ L) (hS : ST_lay Inv) (hI : Inv h) (kk : ∀ h2, Inv h2 → GL p l e s m below meth c w b cells slots 1643 [(0, .ref b), (1, .ref (w.2.1 0)), (2, .ref (w.2.1 147)), (3, .int (nI i))] [] h2) : GL p l e s m below meth c w b cells slots 265 [(0, .ref b), (1, .ref (w.2.1 0)), (2, .ref (w.2.1 147)), (3, .int (nI i))] [] h := by
  obtain ⟨r, h1, h2, e1, e2, e3⟩ := hS h hI (xs (nI i + 1).toNatClampNeg) (xs (nI i + 2).toNatClampNeg) (xs (nI i + 3).toNatClampNeg)
  refine l_aload_n (pc := 265) X 1 rfl dL_law_265 rfl ?_
  refine l_aload_n (pc := 266) X 0 rfl dL_law_266 rfl ?_
  refine l_iload_n (pc := 267) X 3 rfl dL_law_267 rfl ?_
  refine l_iconst (pc := 268) (v := 1) X dL_law_268 kc_1 ?_
  refine l_iadd (pc := 269) X dL_law_269 ?_
  refine l_sld (pc := 270) X (in_k hi X.2.2.2.1 1 kn_1 (by decide)) dL_law_270 ?_
  refine l_aload_n (pc := 271) X 0 rfl dL_law_271 rfl ?_
  refine l_iload_n (pc := 272) X 3 rfl dL_law_272 rfl ?_
  refine l_iconst (pc := 273) (v := 2) X dL_law_273 kc_2 ?_
  refine l_iadd (pc := 274) X dL_law_274 ?_
  refine l_sld (pc := 275) X (in_k hi X.2.2.2.1 2 kn_2 (by decide)) dL_law_275 ?_
  refine l_aload_n (pc := 276) X 0 rfl dL_law_276 rfl ?_
  refine l_iload_n (pc := 277) X 3 rfl dL_law_277 rfl ?_
  refine l_iconst (pc := 278) (v := 3) X dL_law_278 kc_3 ?_
  refine l_iadd (pc := 279) X dL_law_279 ?_
  refine l_sld (pc := 280) X (in_k hi X.2.2.2.1 3 kn_3 (by decide)) dL_law_280 ?_
  refine l_call (pc := 281) (x1 := (some (.int r), h1)) (rest := []) X mv_RL_18 (m_X7_lay e1) so_RX7 rfl (by decide) rfl rfl (Nat.le_of_ble_eq_true rfl) dL_law_281 ?_
  show GL p l e s m below meth c w b cells slots 284 [(0, .ref b), (1, .ref (w.2.1 0)), (2, .ref (w.2.1 147)), (3, .int (nI i))] [.int r] h1
  refine l_aload_n (pc := 284) X 2 rfl dL_law_284 rfl ?_
  refine l_aload_n (pc := 285) X 0 rfl dL_law_285 rfl ?_
  refine l_iload_n (pc := 286) X 3 rfl dL_law_286 rfl ?_
  refine l_iconst (pc := 287) (v := 1) X dL_law_287 kc_1 ?_
  refine l_iadd (pc := 288) X dL_law_288 ?_
  refine l_sld (pc := 289) X (in_k hi X.2.2.2.1 1 kn_1 (by decide)) dL_law_289 ?_
  refine l_aload_n (pc := 290) X 0 rfl dL_law_290 rfl ?_
  refine l_iload_n (pc := 291) X 3 rfl dL_law_291 rfl ?_
  refine l_iconst (pc := 292) (v := 2) X dL_law_292 kc_2 ?_
  refine l_iadd (pc := 293) X dL_law_293 ?_
  refine l_sld (pc := 294) X (in_k hi X.2.2.2.1 2 kn_2 (by decide)) dL_law_294 ?_
  refine l_aload_n (pc := 295) X 0 rfl dL_law_295 rfl ?_
  refine l_iload_n (pc := 296) X 3 rfl dL_law_296 rfl ?_
  refine l_iconst (pc := 297) (v := 3) X dL_law_297 kc_3 ?_
  refine l_iadd (pc := 298) X dL_law_298 ?_
  refine l_sld (pc := 299) X (in_k hi X.2.2.2.1 3 kn_3 (by decide)) dL_law_299 ?_
  refine l_call (pc := 300) (x1 := (some (.int r), h2)) (rest := [.int r]) X mv_RL_22 (m_X8_lay e2) so_RX8 rfl (by decide) rfl rfl (Nat.le_of_ble_eq_true rfl) dL_law_300 ?_
  show GL p l e s m below meth c w b cells slots 303 [(0, .ref b), (1, .ref (w.2.1 0)), (2, .ref (w.2.1 147)), (3, .int (nI i))] [.int r, .int r] h2
  refine l_eq (pc := 303) (tgt := 1643) X dL_law_303 (by decide) rfl ?_
  exact kk _ e3
set_option maxRecDepth 20000 in
theorem lc_at {p : Program} {l : Launch} {e : Env} {s : State} {m : MethodId} {below : List Frame} {meth : Method} {c : Code} {w : WK} {b L cells slots : Nat} {xs : Nat → Int32} {Inv : TT → Prop} {i : Nat} {h : TT} (X : LX p s m meth c w b L cells slots xs) (hi : i + 7 ≤ L) (hS : ST_at Inv) (hI : Inv h) (kk : ∀ h2, Inv h2 → GL p l e s m below meth c w b cells slots 1643 [(0, .ref b), (1, .ref (w.2.1 0)), (2, .ref (w.2.1 147)), (3, .int (nI i))] [] h2) : GL p l e s m below meth c w b cells slots 308 [(0, .ref b), (1, .ref (w.2.1 0)), (2, .ref (w.2.1 147)), (3, .int (nI i))] [] h := by
  obtain ⟨r, h1, h2, e1, e2, e3⟩ := hS h hI (xs (nI i + 1).toNatClampNeg) (xs (nI i + 2).toNatClampNeg)
  refine l_aload_n (pc := 308) X 1 rfl dL_law_308 rfl ?_
  refine l_aload_n (pc := 309) X 0 rfl dL_law_309 rfl ?_
  refine l_iload_n (pc := 310) X 3 rfl dL_law_310 rfl ?_
  refine l_iconst (pc := 311) (v := 1) X dL_law_311 kc_1 ?_
  refine l_iadd (pc := 312) X dL_law_312 ?_
  refine l_sld (pc := 313) X (in_k hi X.2.2.2.1 1 kn_1 (by decide)) dL_law_313 ?_
  refine l_aload_n (pc := 314) X 0 rfl dL_law_314 rfl ?_
  refine l_iload_n (pc := 315) X 3 rfl dL_law_315 rfl ?_
  refine l_iconst (pc := 316) (v := 2) X dL_law_316 kc_2 ?_
  refine l_iadd (pc := 317) X dL_law_317 ?_
  refine l_sld (pc := 318) X (in_k hi X.2.2.2.1 2 kn_2 (by decide)) dL_law_318 ?_
  refine l_call (pc := 319) (x1 := (some (.int r), h1)) (rest := []) X mv_RL_23 (m_X7_at e1) so_RX7 rfl (by decide) rfl rfl (Nat.le_of_ble_eq_true rfl) dL_law_319 ?_
  show GL p l e s m below meth c w b cells slots 322 [(0, .ref b), (1, .ref (w.2.1 0)), (2, .ref (w.2.1 147)), (3, .int (nI i))] [.int r] h1
  refine l_aload_n (pc := 322) X 2 rfl dL_law_322 rfl ?_
  refine l_aload_n (pc := 323) X 0 rfl dL_law_323 rfl ?_
  refine l_iload_n (pc := 324) X 3 rfl dL_law_324 rfl ?_
  refine l_iconst (pc := 325) (v := 1) X dL_law_325 kc_1 ?_
  refine l_iadd (pc := 326) X dL_law_326 ?_
  refine l_sld (pc := 327) X (in_k hi X.2.2.2.1 1 kn_1 (by decide)) dL_law_327 ?_
  refine l_aload_n (pc := 328) X 0 rfl dL_law_328 rfl ?_
  refine l_iload_n (pc := 329) X 3 rfl dL_law_329 rfl ?_
  refine l_iconst (pc := 330) (v := 2) X dL_law_330 kc_2 ?_
  refine l_iadd (pc := 331) X dL_law_331 ?_
  refine l_sld (pc := 332) X (in_k hi X.2.2.2.1 2 kn_2 (by decide)) dL_law_332 ?_
  refine l_call (pc := 333) (x1 := (some (.int r), h2)) (rest := [.int r]) X mv_RL_26 (m_X8_at e2) so_RX8 rfl (by decide) rfl rfl (Nat.le_of_ble_eq_true rfl) dL_law_333 ?_
  show GL p l e s m below meth c w b cells slots 336 [(0, .ref b), (1, .ref (w.2.1 0)), (2, .ref (w.2.1 147)), (3, .int (nI i))] [.int r, .int r] h2
  refine l_eq (pc := 336) (tgt := 1643) X dL_law_336 (by decide) rfl ?_
  exact kk _ e3
set_option maxRecDepth 20000 in
theorem lc_tear {p : Program} {l : Launch} {e : Env} {s : State} {m : MethodId} {below : List Frame} {meth : Method} {c : Code} {w : WK} {b L cells slots : Nat} {xs : Nat → Int32} {Inv : TT → Prop} {i : Nat} {h : TT} (X : LX p s m meth c w b L cells slots xs) (hi : i + 7 ≤ L) (hS : ST_tear Inv) (hI : Inv h) (kk : ∀ h2, Inv h2 → GL p l e s m below meth c w b cells slots 1643 [(0, .ref b), (1, .ref (w.2.1 0)), (2, .ref (w.2.1 147)), (3, .int (nI i))] [] h2) : GL p l e s m below meth c w b cells slots 341 [(0, .ref b), (1, .ref (w.2.1 0)), (2, .ref (w.2.1 147)), (3, .int (nI i))] [] h := by
  obtain ⟨r, h1, h2, e1, e2, e3⟩ := hS h hI (xs (nI i + 1).toNatClampNeg)
  refine l_aload_n (pc := 341) X 1 rfl dL_law_341 rfl ?_
  refine l_aload_n (pc := 342) X 0 rfl dL_law_342 rfl ?_
  refine l_iload_n (pc := 343) X 3 rfl dL_law_343 rfl ?_
  refine l_iconst (pc := 344) (v := 1) X dL_law_344 kc_1 ?_
  refine l_iadd (pc := 345) X dL_law_345 ?_
  refine l_sld (pc := 346) X (in_k hi X.2.2.2.1 1 kn_1 (by decide)) dL_law_346 ?_
  refine l_call (pc := 347) (x1 := (some (.int r), h1)) (rest := []) X mv_RL_27 (m_X7_tear e1) so_RX7 rfl (by decide) rfl rfl (Nat.le_of_ble_eq_true rfl) dL_law_347 ?_
  show GL p l e s m below meth c w b cells slots 350 [(0, .ref b), (1, .ref (w.2.1 0)), (2, .ref (w.2.1 147)), (3, .int (nI i))] [.int r] h1
  refine l_aload_n (pc := 350) X 2 rfl dL_law_350 rfl ?_
  refine l_aload_n (pc := 351) X 0 rfl dL_law_351 rfl ?_
  refine l_iload_n (pc := 352) X 3 rfl dL_law_352 rfl ?_
  refine l_iconst (pc := 353) (v := 1) X dL_law_353 kc_1 ?_
  refine l_iadd (pc := 354) X dL_law_354 ?_
  refine l_sld (pc := 355) X (in_k hi X.2.2.2.1 1 kn_1 (by decide)) dL_law_355 ?_
  refine l_call (pc := 356) (x1 := (some (.int r), h2)) (rest := [.int r]) X mv_RL_31 (m_X8_tear e2) so_RX8 rfl (by decide) rfl rfl (Nat.le_of_ble_eq_true rfl) dL_law_356 ?_
  show GL p l e s m below meth c w b cells slots 359 [(0, .ref b), (1, .ref (w.2.1 0)), (2, .ref (w.2.1 147)), (3, .int (nI i))] [.int r, .int r] h2
  refine l_eq (pc := 359) (tgt := 1643) X dL_law_359 (by decide) rfl ?_
  exact kk _ e3
set_option maxRecDepth 20000 in
theorem lc_copy {p : Program} {l : Launch} {e : Env} {s : State} {m : MethodId} {below : List Frame} {meth : Method} {c : Code} {w : WK} {b L cells slots : Nat} {xs : Nat → Int32} {Inv : TT → Prop} {i : Nat} {h : TT} (X : LX p s m meth c w b L cells slots xs) (hi : i + 7 ≤ L) (hS : ST_copy Inv) (hI : Inv h) (kk : ∀ h2, Inv h2 → GL p l e s m below meth c w b cells slots 1643 [(0, .ref b), (1, .ref (w.2.1 0)), (2, .ref (w.2.1 147)), (3, .int (nI i))] [] h2) : GL p l e s m below meth c w b cells slots 364 [(0, .ref b), (1, .ref (w.2.1 0)), (2, .ref (w.2.1 147)), (3, .int (nI i))] [] h := by
  obtain ⟨r, h1, h2, e1, e2, e3⟩ := hS h hI (xs (nI i + 1).toNatClampNeg) (xs (nI i + 2).toNatClampNeg) (xs (nI i + 3).toNatClampNeg) (xs (nI i + 4).toNatClampNeg) (xs (nI i + 5).toNatClampNeg)
  refine l_aload_n (pc := 364) X 1 rfl dL_law_364 rfl ?_
  refine l_aload_n (pc := 365) X 0 rfl dL_law_365 rfl ?_
  refine l_iload_n (pc := 366) X 3 rfl dL_law_366 rfl ?_
  refine l_iconst (pc := 367) (v := 1) X dL_law_367 kc_1 ?_
  refine l_iadd (pc := 368) X dL_law_368 ?_
  refine l_sld (pc := 369) X (in_k hi X.2.2.2.1 1 kn_1 (by decide)) dL_law_369 ?_
  refine l_aload_n (pc := 370) X 0 rfl dL_law_370 rfl ?_
  refine l_iload_n (pc := 371) X 3 rfl dL_law_371 rfl ?_
  refine l_iconst (pc := 372) (v := 2) X dL_law_372 kc_2 ?_
  refine l_iadd (pc := 373) X dL_law_373 ?_
  refine l_sld (pc := 374) X (in_k hi X.2.2.2.1 2 kn_2 (by decide)) dL_law_374 ?_
  refine l_aload_n (pc := 375) X 0 rfl dL_law_375 rfl ?_
  refine l_iload_n (pc := 376) X 3 rfl dL_law_376 rfl ?_
  refine l_iconst (pc := 377) (v := 3) X dL_law_377 kc_3 ?_
  refine l_iadd (pc := 378) X dL_law_378 ?_
  refine l_sld (pc := 379) X (in_k hi X.2.2.2.1 3 kn_3 (by decide)) dL_law_379 ?_
  refine l_aload_n (pc := 380) X 0 rfl dL_law_380 rfl ?_
  refine l_iload_n (pc := 381) X 3 rfl dL_law_381 rfl ?_
  refine l_iconst (pc := 382) (v := 4) X dL_law_382 kc_4 ?_
  refine l_iadd (pc := 383) X dL_law_383 ?_
  refine l_sld (pc := 384) X (in_k hi X.2.2.2.1 4 kn_4 (by decide)) dL_law_384 ?_
  refine l_aload_n (pc := 385) X 0 rfl dL_law_385 rfl ?_
  refine l_iload_n (pc := 386) X 3 rfl dL_law_386 rfl ?_
  refine l_iconst (pc := 387) (v := 5) X dL_law_387 kc_5 ?_
  refine l_iadd (pc := 388) X dL_law_388 ?_
  refine l_sld (pc := 389) X (in_k hi X.2.2.2.1 5 kn_5 (by decide)) dL_law_389 ?_
  refine l_call (pc := 390) (x1 := (some (.int r), h1)) (rest := []) X mv_RL_32 (m_X7_copy e1) so_RX7 rfl (by decide) rfl rfl (Nat.le_of_ble_eq_true rfl) dL_law_390 ?_
  show GL p l e s m below meth c w b cells slots 393 [(0, .ref b), (1, .ref (w.2.1 0)), (2, .ref (w.2.1 147)), (3, .int (nI i))] [.int r] h1
  refine l_aload_n (pc := 393) X 2 rfl dL_law_393 rfl ?_
  refine l_aload_n (pc := 394) X 0 rfl dL_law_394 rfl ?_
  refine l_iload_n (pc := 395) X 3 rfl dL_law_395 rfl ?_
  refine l_iconst (pc := 396) (v := 1) X dL_law_396 kc_1 ?_
  refine l_iadd (pc := 397) X dL_law_397 ?_
  refine l_sld (pc := 398) X (in_k hi X.2.2.2.1 1 kn_1 (by decide)) dL_law_398 ?_
  refine l_aload_n (pc := 399) X 0 rfl dL_law_399 rfl ?_
  refine l_iload_n (pc := 400) X 3 rfl dL_law_400 rfl ?_
  refine l_iconst (pc := 401) (v := 2) X dL_law_401 kc_2 ?_
  refine l_iadd (pc := 402) X dL_law_402 ?_
  refine l_sld (pc := 403) X (in_k hi X.2.2.2.1 2 kn_2 (by decide)) dL_law_403 ?_
  refine l_aload_n (pc := 404) X 0 rfl dL_law_404 rfl ?_
  refine l_iload_n (pc := 405) X 3 rfl dL_law_405 rfl ?_
  refine l_iconst (pc := 406) (v := 3) X dL_law_406 kc_3 ?_
  refine l_iadd (pc := 407) X dL_law_407 ?_
  refine l_sld (pc := 408) X (in_k hi X.2.2.2.1 3 kn_3 (by decide)) dL_law_408 ?_
  refine l_aload_n (pc := 409) X 0 rfl dL_law_409 rfl ?_
  refine l_iload_n (pc := 410) X 3 rfl dL_law_410 rfl ?_
  refine l_iconst (pc := 411) (v := 4) X dL_law_411 kc_4 ?_
  refine l_iadd (pc := 412) X dL_law_412 ?_
  refine l_sld (pc := 413) X (in_k hi X.2.2.2.1 4 kn_4 (by decide)) dL_law_413 ?_
  refine l_aload_n (pc := 414) X 0 rfl dL_law_414 rfl ?_
  refine l_iload_n (pc := 415) X 3 rfl dL_law_415 rfl ?_
  refine l_iconst (pc := 416) (v := 5) X dL_law_416 kc_5 ?_
  refine l_iadd (pc := 417) X dL_law_417 ?_
  refine l_sld (pc := 418) X (in_k hi X.2.2.2.1 5 kn_5 (by decide)) dL_law_418 ?_
  refine l_call (pc := 419) (x1 := (some (.int r), h2)) (rest := [.int r]) X mv_RL_36 (m_X8_copy e2) so_RX8 rfl (by decide) rfl rfl (Nat.le_of_ble_eq_true rfl) dL_law_419 ?_
  show GL p l e s m below meth c w b cells slots 422 [(0, .ref b), (1, .ref (w.2.1 0)), (2, .ref (w.2.1 147)), (3, .int (nI i))] [.int r, .int r] h2
  refine l_eq (pc := 422) (tgt := 1643) X dL_law_422 (by decide) rfl ?_
  exact kk _ e3
set_option maxRecDepth 20000 in
theorem lc_mean {p : Program} {l : Launch} {e : Env} {s : State} {m : MethodId} {below : List Frame} {meth : Method} {c : Code} {w : WK} {b L cells slots : Nat} {xs : Nat → Int32} {Inv : TT → Prop} {i : Nat} {h : TT} (X : LX p s m meth c w b L cells slots xs) (hi : i + 7 ≤ L) (hS : ST_mean Inv) (hI : Inv h) (kk : ∀ h2, Inv h2 → GL p l e s m below meth c w b cells slots 1643 [(0, .ref b), (1, .ref (w.2.1 0)), (2, .ref (w.2.1 147)), (3, .int (nI i))] [] h2) : GL p l e s m below meth c w b cells slots 427 [(0, .ref b), (1, .ref (w.2.1 0)), (2, .ref (w.2.1 147)), (3, .int (nI i))] [] h := by
  obtain ⟨r, h1, h2, e1, e2, e3⟩ := hS h hI (xs (nI i + 1).toNatClampNeg)
  refine l_aload_n (pc := 427) X 1 rfl dL_law_427 rfl ?_
  refine l_aload_n (pc := 428) X 0 rfl dL_law_428 rfl ?_
  refine l_iload_n (pc := 429) X 3 rfl dL_law_429 rfl ?_
  refine l_iconst (pc := 430) (v := 1) X dL_law_430 kc_1 ?_
  refine l_iadd (pc := 431) X dL_law_431 ?_
  refine l_sld (pc := 432) X (in_k hi X.2.2.2.1 1 kn_1 (by decide)) dL_law_432 ?_
  refine l_call (pc := 433) (x1 := (some (.int r), h1)) (rest := []) X mv_RL_37 (m_X7_mean e1) so_RX7 rfl (by decide) rfl rfl (Nat.le_of_ble_eq_true rfl) dL_law_433 ?_
  show GL p l e s m below meth c w b cells slots 436 [(0, .ref b), (1, .ref (w.2.1 0)), (2, .ref (w.2.1 147)), (3, .int (nI i))] [.int r] h1
  refine l_aload_n (pc := 436) X 2 rfl dL_law_436 rfl ?_
  refine l_aload_n (pc := 437) X 0 rfl dL_law_437 rfl ?_
  refine l_iload_n (pc := 438) X 3 rfl dL_law_438 rfl ?_
  refine l_iconst (pc := 439) (v := 1) X dL_law_439 kc_1 ?_
  refine l_iadd (pc := 440) X dL_law_440 ?_
  refine l_sld (pc := 441) X (in_k hi X.2.2.2.1 1 kn_1 (by decide)) dL_law_441 ?_
  refine l_call (pc := 442) (x1 := (some (.int r), h2)) (rest := [.int r]) X mv_RL_40 (m_X8_mean e2) so_RX8 rfl (by decide) rfl rfl (Nat.le_of_ble_eq_true rfl) dL_law_442 ?_
  show GL p l e s m below meth c w b cells slots 445 [(0, .ref b), (1, .ref (w.2.1 0)), (2, .ref (w.2.1 147)), (3, .int (nI i))] [.int r, .int r] h2
  refine l_eq (pc := 445) (tgt := 1643) X dL_law_445 (by decide) rfl ?_
  exact kk _ e3
set_option maxRecDepth 20000 in
theorem lc_text {p : Program} {l : Launch} {e : Env} {s : State} {m : MethodId} {below : List Frame} {meth : Method} {c : Code} {w : WK} {b L cells slots : Nat} {xs : Nat → Int32} {Inv : TT → Prop} {i : Nat} {h : TT} (X : LX p s m meth c w b L cells slots xs) (hi : i + 7 ≤ L) (hS : ST_text Inv) (hI : Inv h) (kk : ∀ h2, Inv h2 → GL p l e s m below meth c w b cells slots 1643 [(0, .ref b), (1, .ref (w.2.1 0)), (2, .ref (w.2.1 147)), (3, .int (nI i))] [] h2) : GL p l e s m below meth c w b cells slots 450 [(0, .ref b), (1, .ref (w.2.1 0)), (2, .ref (w.2.1 147)), (3, .int (nI i))] [] h := by
  obtain ⟨r, h1, h2, e1, e2, e3⟩ := hS h hI (xs (nI i + 1).toNatClampNeg) (xs (nI i + 2).toNatClampNeg)
  refine l_aload_n (pc := 450) X 1 rfl dL_law_450 rfl ?_
  refine l_aload_n (pc := 451) X 0 rfl dL_law_451 rfl ?_
  refine l_iload_n (pc := 452) X 3 rfl dL_law_452 rfl ?_
  refine l_iconst (pc := 453) (v := 1) X dL_law_453 kc_1 ?_
  refine l_iadd (pc := 454) X dL_law_454 ?_
  refine l_sld (pc := 455) X (in_k hi X.2.2.2.1 1 kn_1 (by decide)) dL_law_455 ?_
  refine l_aload_n (pc := 456) X 0 rfl dL_law_456 rfl ?_
  refine l_iload_n (pc := 457) X 3 rfl dL_law_457 rfl ?_
  refine l_iconst (pc := 458) (v := 2) X dL_law_458 kc_2 ?_
  refine l_iadd (pc := 459) X dL_law_459 ?_
  refine l_sld (pc := 460) X (in_k hi X.2.2.2.1 2 kn_2 (by decide)) dL_law_460 ?_
  refine l_call (pc := 461) (x1 := (some (.int r), h1)) (rest := []) X mv_RL_41 (m_X7_text e1) so_RX7 rfl (by decide) rfl rfl (Nat.le_of_ble_eq_true rfl) dL_law_461 ?_
  show GL p l e s m below meth c w b cells slots 464 [(0, .ref b), (1, .ref (w.2.1 0)), (2, .ref (w.2.1 147)), (3, .int (nI i))] [.int r] h1
  refine l_aload_n (pc := 464) X 2 rfl dL_law_464 rfl ?_
  refine l_aload_n (pc := 465) X 0 rfl dL_law_465 rfl ?_
  refine l_iload_n (pc := 466) X 3 rfl dL_law_466 rfl ?_
  refine l_iconst (pc := 467) (v := 1) X dL_law_467 kc_1 ?_
  refine l_iadd (pc := 468) X dL_law_468 ?_
  refine l_sld (pc := 469) X (in_k hi X.2.2.2.1 1 kn_1 (by decide)) dL_law_469 ?_
  refine l_aload_n (pc := 470) X 0 rfl dL_law_470 rfl ?_
  refine l_iload_n (pc := 471) X 3 rfl dL_law_471 rfl ?_
  refine l_iconst (pc := 472) (v := 2) X dL_law_472 kc_2 ?_
  refine l_iadd (pc := 473) X dL_law_473 ?_
  refine l_sld (pc := 474) X (in_k hi X.2.2.2.1 2 kn_2 (by decide)) dL_law_474 ?_
  refine l_call (pc := 475) (x1 := (some (.int r), h2)) (rest := [.int r]) X mv_RL_44 (m_X8_text e2) so_RX8 rfl (by decide) rfl rfl (Nat.le_of_ble_eq_true rfl) dL_law_475 ?_
  show GL p l e s m below meth c w b cells slots 478 [(0, .ref b), (1, .ref (w.2.1 0)), (2, .ref (w.2.1 147)), (3, .int (nI i))] [.int r, .int r] h2
  refine l_eq (pc := 478) (tgt := 1643) X dL_law_478 (by decide) rfl ?_
  exact kk _ e3
set_option maxRecDepth 20000 in
theorem lc_put {p : Program} {l : Launch} {e : Env} {s : State} {m : MethodId} {below : List Frame} {meth : Method} {c : Code} {w : WK} {b L cells slots : Nat} {xs : Nat → Int32} {Inv : TT → Prop} {i : Nat} {h : TT} (X : LX p s m meth c w b L cells slots xs) (hi : i + 7 ≤ L) (hS : ST_put Inv) (hI : Inv h) (kk : ∀ h2, Inv h2 → GL p l e s m below meth c w b cells slots 1643 [(0, .ref b), (1, .ref (w.2.1 0)), (2, .ref (w.2.1 147)), (3, .int (nI i))] [] h2) : GL p l e s m below meth c w b cells slots 483 [(0, .ref b), (1, .ref (w.2.1 0)), (2, .ref (w.2.1 147)), (3, .int (nI i))] [] h := by
  obtain ⟨r, h1, h2, e1, e2, e3⟩ := hS h hI (xs (nI i + 1).toNatClampNeg) (xs (nI i + 2).toNatClampNeg) (xs (nI i + 3).toNatClampNeg)
  refine l_aload_n (pc := 483) X 1 rfl dL_law_483 rfl ?_
  refine l_aload_n (pc := 484) X 0 rfl dL_law_484 rfl ?_
  refine l_iload_n (pc := 485) X 3 rfl dL_law_485 rfl ?_
  refine l_iconst (pc := 486) (v := 1) X dL_law_486 kc_1 ?_
  refine l_iadd (pc := 487) X dL_law_487 ?_
  refine l_sld (pc := 488) X (in_k hi X.2.2.2.1 1 kn_1 (by decide)) dL_law_488 ?_
  refine l_aload_n (pc := 489) X 0 rfl dL_law_489 rfl ?_
  refine l_iload_n (pc := 490) X 3 rfl dL_law_490 rfl ?_
  refine l_iconst (pc := 491) (v := 2) X dL_law_491 kc_2 ?_
  refine l_iadd (pc := 492) X dL_law_492 ?_
  refine l_sld (pc := 493) X (in_k hi X.2.2.2.1 2 kn_2 (by decide)) dL_law_493 ?_
  refine l_aload_n (pc := 494) X 0 rfl dL_law_494 rfl ?_
  refine l_iload_n (pc := 495) X 3 rfl dL_law_495 rfl ?_
  refine l_iconst (pc := 496) (v := 3) X dL_law_496 kc_3 ?_
  refine l_iadd (pc := 497) X dL_law_497 ?_
  refine l_sld (pc := 498) X (in_k hi X.2.2.2.1 3 kn_3 (by decide)) dL_law_498 ?_
  refine l_call (pc := 499) (x1 := (some (.int r), h1)) (rest := []) X mv_RL_45 (m_X7_put e1) so_RX7 rfl (by decide) rfl rfl (Nat.le_of_ble_eq_true rfl) dL_law_499 ?_
  show GL p l e s m below meth c w b cells slots 502 [(0, .ref b), (1, .ref (w.2.1 0)), (2, .ref (w.2.1 147)), (3, .int (nI i))] [.int r] h1
  refine l_aload_n (pc := 502) X 2 rfl dL_law_502 rfl ?_
  refine l_aload_n (pc := 503) X 0 rfl dL_law_503 rfl ?_
  refine l_iload_n (pc := 504) X 3 rfl dL_law_504 rfl ?_
  refine l_iconst (pc := 505) (v := 1) X dL_law_505 kc_1 ?_
  refine l_iadd (pc := 506) X dL_law_506 ?_
  refine l_sld (pc := 507) X (in_k hi X.2.2.2.1 1 kn_1 (by decide)) dL_law_507 ?_
  refine l_aload_n (pc := 508) X 0 rfl dL_law_508 rfl ?_
  refine l_iload_n (pc := 509) X 3 rfl dL_law_509 rfl ?_
  refine l_iconst (pc := 510) (v := 2) X dL_law_510 kc_2 ?_
  refine l_iadd (pc := 511) X dL_law_511 ?_
  refine l_sld (pc := 512) X (in_k hi X.2.2.2.1 2 kn_2 (by decide)) dL_law_512 ?_
  refine l_aload_n (pc := 513) X 0 rfl dL_law_513 rfl ?_
  refine l_iload_n (pc := 514) X 3 rfl dL_law_514 rfl ?_
  refine l_iconst (pc := 515) (v := 3) X dL_law_515 kc_3 ?_
  refine l_iadd (pc := 516) X dL_law_516 ?_
  refine l_sld (pc := 517) X (in_k hi X.2.2.2.1 3 kn_3 (by decide)) dL_law_517 ?_
  refine l_call (pc := 518) (x1 := (some (.int r), h2)) (rest := [.int r]) X mv_RL_48 (m_X8_put e2) so_RX8 rfl (by decide) rfl rfl (Nat.le_of_ble_eq_true rfl) dL_law_518 ?_
  show GL p l e s m below meth c w b cells slots 521 [(0, .ref b), (1, .ref (w.2.1 0)), (2, .ref (w.2.1 147)), (3, .int (nI i))] [.int r, .int r] h2
  refine l_eq (pc := 521) (tgt := 1643) X dL_law_521 (by decide) rfl ?_
  exact kk _ e3
set_option maxRecDepth 20000 in
theorem lc_fault {p : Program} {l : Launch} {e : Env} {s : State} {m : MethodId} {below : List Frame} {meth : Method} {c : Code} {w : WK} {b L cells slots : Nat} {xs : Nat → Int32} {Inv : TT → Prop} {i : Nat} {h : TT} (X : LX p s m meth c w b L cells slots xs) (hi : i + 7 ≤ L) (hS : ST_fault Inv) (hI : Inv h) (kk : ∀ h2, Inv h2 → GL p l e s m below meth c w b cells slots 1643 [(0, .ref b), (1, .ref (w.2.1 0)), (2, .ref (w.2.1 147)), (3, .int (nI i))] [] h2) : GL p l e s m below meth c w b cells slots 526 [(0, .ref b), (1, .ref (w.2.1 0)), (2, .ref (w.2.1 147)), (3, .int (nI i))] [] h := by
  by_cases h0 : (xs (nI i + 2).toNatClampNeg) = 0
  · obtain ⟨r, h1, h2, e1, e2, e3⟩ := hS h hI (xs (nI i + 1).toNatClampNeg) 0 (Or.inl rfl)
    refine l_aload_n (pc := 526) X 1 rfl dL_law_526 rfl ?_
    refine l_aload_n (pc := 527) X 0 rfl dL_law_527 rfl ?_
    refine l_iload_n (pc := 528) X 3 rfl dL_law_528 rfl ?_
    refine l_iconst (pc := 529) (v := 1) X dL_law_529 kc_1 ?_
    refine l_iadd (pc := 530) X dL_law_530 ?_
    refine l_sld (pc := 531) X (in_k hi X.2.2.2.1 1 kn_1 (by decide)) dL_law_531 ?_
    refine l_aload_n (pc := 532) X 0 rfl dL_law_532 rfl ?_
    refine l_iload_n (pc := 533) X 3 rfl dL_law_533 rfl ?_
    refine l_iconst (pc := 534) (v := 2) X dL_law_534 kc_2 ?_
    refine l_iadd (pc := 535) X dL_law_535 ?_
    refine l_sld (pc := 536) X (in_k hi X.2.2.2.1 2 kn_2 (by decide)) dL_law_536 ?_
    refine l_if0 (pc := 537) (tgt := 544) X dL_law_537 (by decide) h0 ?_
    refine l_iconst (pc := 544) (v := 0) X dL_law_544 kc_0 ?_
    refine l_call (pc := 545) (x1 := (some (.int r), h1)) (rest := []) X mv_RL_49 (m_X7_fault e1) so_RX7 rfl (by decide) rfl rfl (Nat.le_of_ble_eq_true rfl) dL_law_545 ?_
    show GL p l e s m below meth c w b cells slots 548 [(0, .ref b), (1, .ref (w.2.1 0)), (2, .ref (w.2.1 147)), (3, .int (nI i))] [.int r] h1
    refine l_aload_n (pc := 548) X 2 rfl dL_law_548 rfl ?_
    refine l_aload_n (pc := 549) X 0 rfl dL_law_549 rfl ?_
    refine l_iload_n (pc := 550) X 3 rfl dL_law_550 rfl ?_
    refine l_iconst (pc := 551) (v := 1) X dL_law_551 kc_1 ?_
    refine l_iadd (pc := 552) X dL_law_552 ?_
    refine l_sld (pc := 553) X (in_k hi X.2.2.2.1 1 kn_1 (by decide)) dL_law_553 ?_
    refine l_aload_n (pc := 554) X 0 rfl dL_law_554 rfl ?_
    refine l_iload_n (pc := 555) X 3 rfl dL_law_555 rfl ?_
    refine l_iconst (pc := 556) (v := 2) X dL_law_556 kc_2 ?_
    refine l_iadd (pc := 557) X dL_law_557 ?_
    refine l_sld (pc := 558) X (in_k hi X.2.2.2.1 2 kn_2 (by decide)) dL_law_558 ?_
    refine l_if0 (pc := 559) (tgt := 566) X dL_law_559 (by decide) h0 ?_
    refine l_iconst (pc := 566) (v := 0) X dL_law_566 kc_0 ?_
    refine l_call (pc := 567) (x1 := (some (.int r), h2)) (rest := [.int r]) X mv_RL_53 (m_X8_fault e2) so_RX8 rfl (by decide) rfl rfl (Nat.le_of_ble_eq_true rfl) dL_law_567 ?_
    show GL p l e s m below meth c w b cells slots 570 [(0, .ref b), (1, .ref (w.2.1 0)), (2, .ref (w.2.1 147)), (3, .int (nI i))] [.int r, .int r] h2
    refine l_eq (pc := 570) (tgt := 1643) X dL_law_570 (by decide) rfl ?_
    exact kk _ e3
  · obtain ⟨r, h1, h2, e1, e2, e3⟩ := hS h hI (xs (nI i + 1).toNatClampNeg) 1 (Or.inr rfl)
    refine l_aload_n (pc := 526) X 1 rfl dL_law_526 rfl ?_
    refine l_aload_n (pc := 527) X 0 rfl dL_law_527 rfl ?_
    refine l_iload_n (pc := 528) X 3 rfl dL_law_528 rfl ?_
    refine l_iconst (pc := 529) (v := 1) X dL_law_529 kc_1 ?_
    refine l_iadd (pc := 530) X dL_law_530 ?_
    refine l_sld (pc := 531) X (in_k hi X.2.2.2.1 1 kn_1 (by decide)) dL_law_531 ?_
    refine l_aload_n (pc := 532) X 0 rfl dL_law_532 rfl ?_
    refine l_iload_n (pc := 533) X 3 rfl dL_law_533 rfl ?_
    refine l_iconst (pc := 534) (v := 2) X dL_law_534 kc_2 ?_
    refine l_iadd (pc := 535) X dL_law_535 ?_
    refine l_sld (pc := 536) X (in_k hi X.2.2.2.1 2 kn_2 (by decide)) dL_law_536 ?_
    refine l_if1 (pc := 537) (tgt := 544) X dL_law_537 (by decide) h0 ?_
    refine l_iconst (pc := 540) (v := 1) X dL_law_540 kc_1 ?_
    refine l_goto (pc := 541) (tgt := 545) X dL_law_541 (by decide) ?_
    refine l_call (pc := 545) (x1 := (some (.int r), h1)) (rest := []) X mv_RL_49 (m_X7_fault e1) so_RX7 rfl (by decide) rfl rfl (Nat.le_of_ble_eq_true rfl) dL_law_545 ?_
    show GL p l e s m below meth c w b cells slots 548 [(0, .ref b), (1, .ref (w.2.1 0)), (2, .ref (w.2.1 147)), (3, .int (nI i))] [.int r] h1
    refine l_aload_n (pc := 548) X 2 rfl dL_law_548 rfl ?_
    refine l_aload_n (pc := 549) X 0 rfl dL_law_549 rfl ?_
    refine l_iload_n (pc := 550) X 3 rfl dL_law_550 rfl ?_
    refine l_iconst (pc := 551) (v := 1) X dL_law_551 kc_1 ?_
    refine l_iadd (pc := 552) X dL_law_552 ?_
    refine l_sld (pc := 553) X (in_k hi X.2.2.2.1 1 kn_1 (by decide)) dL_law_553 ?_
    refine l_aload_n (pc := 554) X 0 rfl dL_law_554 rfl ?_
    refine l_iload_n (pc := 555) X 3 rfl dL_law_555 rfl ?_
    refine l_iconst (pc := 556) (v := 2) X dL_law_556 kc_2 ?_
    refine l_iadd (pc := 557) X dL_law_557 ?_
    refine l_sld (pc := 558) X (in_k hi X.2.2.2.1 2 kn_2 (by decide)) dL_law_558 ?_
    refine l_if1 (pc := 559) (tgt := 566) X dL_law_559 (by decide) h0 ?_
    refine l_iconst (pc := 562) (v := 1) X dL_law_562 kc_1 ?_
    refine l_goto (pc := 563) (tgt := 567) X dL_law_563 (by decide) ?_
    refine l_call (pc := 567) (x1 := (some (.int r), h2)) (rest := [.int r]) X mv_RL_53 (m_X8_fault e2) so_RX8 rfl (by decide) rfl rfl (Nat.le_of_ble_eq_true rfl) dL_law_567 ?_
    show GL p l e s m below meth c w b cells slots 570 [(0, .ref b), (1, .ref (w.2.1 0)), (2, .ref (w.2.1 147)), (3, .int (nI i))] [.int r, .int r] h2
    refine l_eq (pc := 570) (tgt := 1643) X dL_law_570 (by decide) rfl ?_
    exact kk _ e3
set_option maxRecDepth 20000 in
theorem lc_snow {p : Program} {l : Launch} {e : Env} {s : State} {m : MethodId} {below : List Frame} {meth : Method} {c : Code} {w : WK} {b L cells slots : Nat} {xs : Nat → Int32} {Inv : TT → Prop} {i : Nat} {h : TT} (X : LX p s m meth c w b L cells slots xs) (hi : i + 7 ≤ L) (hS : ST_snow Inv) (hI : Inv h) (kk : ∀ h2, Inv h2 → GL p l e s m below meth c w b cells slots 1643 [(0, .ref b), (1, .ref (w.2.1 0)), (2, .ref (w.2.1 147)), (3, .int (nI i))] [] h2) : GL p l e s m below meth c w b cells slots 575 [(0, .ref b), (1, .ref (w.2.1 0)), (2, .ref (w.2.1 147)), (3, .int (nI i))] [] h := by
  obtain ⟨r, h1, h2, e1, e2, e3⟩ := hS h hI (xs (nI i + 1).toNatClampNeg) (xs (nI i + 2).toNatClampNeg)
  refine l_aload_n (pc := 575) X 1 rfl dL_law_575 rfl ?_
  refine l_aload_n (pc := 576) X 0 rfl dL_law_576 rfl ?_
  refine l_iload_n (pc := 577) X 3 rfl dL_law_577 rfl ?_
  refine l_iconst (pc := 578) (v := 1) X dL_law_578 kc_1 ?_
  refine l_iadd (pc := 579) X dL_law_579 ?_
  refine l_sld (pc := 580) X (in_k hi X.2.2.2.1 1 kn_1 (by decide)) dL_law_580 ?_
  refine l_aload_n (pc := 581) X 0 rfl dL_law_581 rfl ?_
  refine l_iload_n (pc := 582) X 3 rfl dL_law_582 rfl ?_
  refine l_iconst (pc := 583) (v := 2) X dL_law_583 kc_2 ?_
  refine l_iadd (pc := 584) X dL_law_584 ?_
  refine l_sld (pc := 585) X (in_k hi X.2.2.2.1 2 kn_2 (by decide)) dL_law_585 ?_
  refine l_call (pc := 586) (x1 := (some (.int r), h1)) (rest := []) X mv_RL_54 (m_X7_snow e1) so_RX7 rfl (by decide) rfl rfl (Nat.le_of_ble_eq_true rfl) dL_law_586 ?_
  show GL p l e s m below meth c w b cells slots 589 [(0, .ref b), (1, .ref (w.2.1 0)), (2, .ref (w.2.1 147)), (3, .int (nI i))] [.int r] h1
  refine l_aload_n (pc := 589) X 2 rfl dL_law_589 rfl ?_
  refine l_aload_n (pc := 590) X 0 rfl dL_law_590 rfl ?_
  refine l_iload_n (pc := 591) X 3 rfl dL_law_591 rfl ?_
  refine l_iconst (pc := 592) (v := 1) X dL_law_592 kc_1 ?_
  refine l_iadd (pc := 593) X dL_law_593 ?_
  refine l_sld (pc := 594) X (in_k hi X.2.2.2.1 1 kn_1 (by decide)) dL_law_594 ?_
  refine l_aload_n (pc := 595) X 0 rfl dL_law_595 rfl ?_
  refine l_iload_n (pc := 596) X 3 rfl dL_law_596 rfl ?_
  refine l_iconst (pc := 597) (v := 2) X dL_law_597 kc_2 ?_
  refine l_iadd (pc := 598) X dL_law_598 ?_
  refine l_sld (pc := 599) X (in_k hi X.2.2.2.1 2 kn_2 (by decide)) dL_law_599 ?_
  refine l_call (pc := 600) (x1 := (some (.int r), h2)) (rest := [.int r]) X mv_RL_57 (m_X8_snow e2) so_RX8 rfl (by decide) rfl rfl (Nat.le_of_ble_eq_true rfl) dL_law_600 ?_
  show GL p l e s m below meth c w b cells slots 603 [(0, .ref b), (1, .ref (w.2.1 0)), (2, .ref (w.2.1 147)), (3, .int (nI i))] [.int r, .int r] h2
  refine l_eq (pc := 603) (tgt := 1643) X dL_law_603 (by decide) rfl ?_
  exact kk _ e3
set_option maxRecDepth 20000 in
theorem lc_plan {p : Program} {l : Launch} {e : Env} {s : State} {m : MethodId} {below : List Frame} {meth : Method} {c : Code} {w : WK} {b L cells slots : Nat} {xs : Nat → Int32} {Inv : TT → Prop} {i : Nat} {h : TT} (X : LX p s m meth c w b L cells slots xs) (hi : i + 7 ≤ L) (hS : ST_plan Inv) (hI : Inv h) (kk : ∀ h2, Inv h2 → GL p l e s m below meth c w b cells slots 1643 [(0, .ref b), (1, .ref (w.2.1 0)), (2, .ref (w.2.1 147)), (3, .int (nI i))] [] h2) : GL p l e s m below meth c w b cells slots 608 [(0, .ref b), (1, .ref (w.2.1 0)), (2, .ref (w.2.1 147)), (3, .int (nI i))] [] h := by
  obtain ⟨r, h1, h2, e1, e2, e3⟩ := hS h hI (xs (nI i + 1).toNatClampNeg) (xs (nI i + 2).toNatClampNeg)
  refine l_aload_n (pc := 608) X 1 rfl dL_law_608 rfl ?_
  refine l_aload_n (pc := 609) X 0 rfl dL_law_609 rfl ?_
  refine l_iload_n (pc := 610) X 3 rfl dL_law_610 rfl ?_
  refine l_iconst (pc := 611) (v := 1) X dL_law_611 kc_1 ?_
  refine l_iadd (pc := 612) X dL_law_612 ?_
  refine l_sld (pc := 613) X (in_k hi X.2.2.2.1 1 kn_1 (by decide)) dL_law_613 ?_
  refine l_aload_n (pc := 614) X 0 rfl dL_law_614 rfl ?_
  refine l_iload_n (pc := 615) X 3 rfl dL_law_615 rfl ?_
  refine l_iconst (pc := 616) (v := 2) X dL_law_616 kc_2 ?_
  refine l_iadd (pc := 617) X dL_law_617 ?_
  refine l_sld (pc := 618) X (in_k hi X.2.2.2.1 2 kn_2 (by decide)) dL_law_618 ?_
  refine l_call (pc := 619) (x1 := (some (.int r), h1)) (rest := []) X mv_RL_58 (m_X7_plan e1) so_RX7 rfl (by decide) rfl rfl (Nat.le_of_ble_eq_true rfl) dL_law_619 ?_
  show GL p l e s m below meth c w b cells slots 622 [(0, .ref b), (1, .ref (w.2.1 0)), (2, .ref (w.2.1 147)), (3, .int (nI i))] [.int r] h1
  refine l_aload_n (pc := 622) X 2 rfl dL_law_622 rfl ?_
  refine l_aload_n (pc := 623) X 0 rfl dL_law_623 rfl ?_
  refine l_iload_n (pc := 624) X 3 rfl dL_law_624 rfl ?_
  refine l_iconst (pc := 625) (v := 1) X dL_law_625 kc_1 ?_
  refine l_iadd (pc := 626) X dL_law_626 ?_
  refine l_sld (pc := 627) X (in_k hi X.2.2.2.1 1 kn_1 (by decide)) dL_law_627 ?_
  refine l_aload_n (pc := 628) X 0 rfl dL_law_628 rfl ?_
  refine l_iload_n (pc := 629) X 3 rfl dL_law_629 rfl ?_
  refine l_iconst (pc := 630) (v := 2) X dL_law_630 kc_2 ?_
  refine l_iadd (pc := 631) X dL_law_631 ?_
  refine l_sld (pc := 632) X (in_k hi X.2.2.2.1 2 kn_2 (by decide)) dL_law_632 ?_
  refine l_call (pc := 633) (x1 := (some (.int r), h2)) (rest := [.int r]) X mv_RL_61 (m_X8_plan e2) so_RX8 rfl (by decide) rfl rfl (Nat.le_of_ble_eq_true rfl) dL_law_633 ?_
  show GL p l e s m below meth c w b cells slots 636 [(0, .ref b), (1, .ref (w.2.1 0)), (2, .ref (w.2.1 147)), (3, .int (nI i))] [.int r, .int r] h2
  refine l_eq (pc := 636) (tgt := 1643) X dL_law_636 (by decide) rfl ?_
  exact kk _ e3
set_option maxRecDepth 20000 in
theorem lc_about {p : Program} {l : Launch} {e : Env} {s : State} {m : MethodId} {below : List Frame} {meth : Method} {c : Code} {w : WK} {b L cells slots : Nat} {xs : Nat → Int32} {Inv : TT → Prop} {i : Nat} {h : TT} (X : LX p s m meth c w b L cells slots xs) (hi : i + 7 ≤ L) (hS : ST_about Inv) (hI : Inv h) (kk : ∀ h2, Inv h2 → GL p l e s m below meth c w b cells slots 1643 [(0, .ref b), (1, .ref (w.2.1 0)), (2, .ref (w.2.1 147)), (3, .int (nI i))] [] h2) : GL p l e s m below meth c w b cells slots 641 [(0, .ref b), (1, .ref (w.2.1 0)), (2, .ref (w.2.1 147)), (3, .int (nI i))] [] h := by
  obtain ⟨r, h1, h2, e1, e2, e3⟩ := hS h hI (xs (nI i + 1).toNatClampNeg) (xs (nI i + 2).toNatClampNeg)
  refine l_aload_n (pc := 641) X 1 rfl dL_law_641 rfl ?_
  refine l_aload_n (pc := 642) X 0 rfl dL_law_642 rfl ?_
  refine l_iload_n (pc := 643) X 3 rfl dL_law_643 rfl ?_
  refine l_iconst (pc := 644) (v := 1) X dL_law_644 kc_1 ?_
  refine l_iadd (pc := 645) X dL_law_645 ?_
  refine l_sld (pc := 646) X (in_k hi X.2.2.2.1 1 kn_1 (by decide)) dL_law_646 ?_
  refine l_aload_n (pc := 647) X 0 rfl dL_law_647 rfl ?_
  refine l_iload_n (pc := 648) X 3 rfl dL_law_648 rfl ?_
  refine l_iconst (pc := 649) (v := 2) X dL_law_649 kc_2 ?_
  refine l_iadd (pc := 650) X dL_law_650 ?_
  refine l_sld (pc := 651) X (in_k hi X.2.2.2.1 2 kn_2 (by decide)) dL_law_651 ?_
  refine l_call (pc := 652) (x1 := (some (.int r), h1)) (rest := []) X mv_RL_62 (m_X7_about e1) so_RX7 rfl (by decide) rfl rfl (Nat.le_of_ble_eq_true rfl) dL_law_652 ?_
  show GL p l e s m below meth c w b cells slots 655 [(0, .ref b), (1, .ref (w.2.1 0)), (2, .ref (w.2.1 147)), (3, .int (nI i))] [.int r] h1
  refine l_aload_n (pc := 655) X 2 rfl dL_law_655 rfl ?_
  refine l_aload_n (pc := 656) X 0 rfl dL_law_656 rfl ?_
  refine l_iload_n (pc := 657) X 3 rfl dL_law_657 rfl ?_
  refine l_iconst (pc := 658) (v := 1) X dL_law_658 kc_1 ?_
  refine l_iadd (pc := 659) X dL_law_659 ?_
  refine l_sld (pc := 660) X (in_k hi X.2.2.2.1 1 kn_1 (by decide)) dL_law_660 ?_
  refine l_aload_n (pc := 661) X 0 rfl dL_law_661 rfl ?_
  refine l_iload_n (pc := 662) X 3 rfl dL_law_662 rfl ?_
  refine l_iconst (pc := 663) (v := 2) X dL_law_663 kc_2 ?_
  refine l_iadd (pc := 664) X dL_law_664 ?_
  refine l_sld (pc := 665) X (in_k hi X.2.2.2.1 2 kn_2 (by decide)) dL_law_665 ?_
  refine l_call (pc := 666) (x1 := (some (.int r), h2)) (rest := [.int r]) X mv_RL_65 (m_X8_about e2) so_RX8 rfl (by decide) rfl rfl (Nat.le_of_ble_eq_true rfl) dL_law_666 ?_
  show GL p l e s m below meth c w b cells slots 669 [(0, .ref b), (1, .ref (w.2.1 0)), (2, .ref (w.2.1 147)), (3, .int (nI i))] [.int r, .int r] h2
  refine l_eq (pc := 669) (tgt := 1643) X dL_law_669 (by decide) rfl ?_
  exact kk _ e3
set_option maxRecDepth 20000 in
theorem lc_tells {p : Program} {l : Launch} {e : Env} {s : State} {m : MethodId} {below : List Frame} {meth : Method} {c : Code} {w : WK} {b L cells slots : Nat} {xs : Nat → Int32} {Inv : TT → Prop} {i : Nat} {h : TT} (X : LX p s m meth c w b L cells slots xs) (hi : i + 7 ≤ L) (hS : ST_tells Inv) (hI : Inv h) (kk : ∀ h2, Inv h2 → GL p l e s m below meth c w b cells slots 1643 [(0, .ref b), (1, .ref (w.2.1 0)), (2, .ref (w.2.1 147)), (3, .int (nI i))] [] h2) : GL p l e s m below meth c w b cells slots 674 [(0, .ref b), (1, .ref (w.2.1 0)), (2, .ref (w.2.1 147)), (3, .int (nI i))] [] h := by
  obtain ⟨r, h1, h2, e1, e2, e3⟩ := hS h hI (xs (nI i + 1).toNatClampNeg) (xs (nI i + 2).toNatClampNeg)
  refine l_aload_n (pc := 674) X 1 rfl dL_law_674 rfl ?_
  refine l_aload_n (pc := 675) X 0 rfl dL_law_675 rfl ?_
  refine l_iload_n (pc := 676) X 3 rfl dL_law_676 rfl ?_
  refine l_iconst (pc := 677) (v := 1) X dL_law_677 kc_1 ?_
  refine l_iadd (pc := 678) X dL_law_678 ?_
  refine l_sld (pc := 679) X (in_k hi X.2.2.2.1 1 kn_1 (by decide)) dL_law_679 ?_
  refine l_aload_n (pc := 680) X 0 rfl dL_law_680 rfl ?_
  refine l_iload_n (pc := 681) X 3 rfl dL_law_681 rfl ?_
  refine l_iconst (pc := 682) (v := 2) X dL_law_682 kc_2 ?_
  refine l_iadd (pc := 683) X dL_law_683 ?_
  refine l_sld (pc := 684) X (in_k hi X.2.2.2.1 2 kn_2 (by decide)) dL_law_684 ?_
  refine l_call (pc := 685) (x1 := (some (.int r), h1)) (rest := []) X mv_RL_66 (m_X7_tells e1) so_RX7 rfl (by decide) rfl rfl (Nat.le_of_ble_eq_true rfl) dL_law_685 ?_
  show GL p l e s m below meth c w b cells slots 688 [(0, .ref b), (1, .ref (w.2.1 0)), (2, .ref (w.2.1 147)), (3, .int (nI i))] [.int r] h1
  refine l_aload_n (pc := 688) X 2 rfl dL_law_688 rfl ?_
  refine l_aload_n (pc := 689) X 0 rfl dL_law_689 rfl ?_
  refine l_iload_n (pc := 690) X 3 rfl dL_law_690 rfl ?_
  refine l_iconst (pc := 691) (v := 1) X dL_law_691 kc_1 ?_
  refine l_iadd (pc := 692) X dL_law_692 ?_
  refine l_sld (pc := 693) X (in_k hi X.2.2.2.1 1 kn_1 (by decide)) dL_law_693 ?_
  refine l_aload_n (pc := 694) X 0 rfl dL_law_694 rfl ?_
  refine l_iload_n (pc := 695) X 3 rfl dL_law_695 rfl ?_
  refine l_iconst (pc := 696) (v := 2) X dL_law_696 kc_2 ?_
  refine l_iadd (pc := 697) X dL_law_697 ?_
  refine l_sld (pc := 698) X (in_k hi X.2.2.2.1 2 kn_2 (by decide)) dL_law_698 ?_
  refine l_call (pc := 699) (x1 := (some (.int r), h2)) (rest := [.int r]) X mv_RL_69 (m_X8_tells e2) so_RX8 rfl (by decide) rfl rfl (Nat.le_of_ble_eq_true rfl) dL_law_699 ?_
  show GL p l e s m below meth c w b cells slots 702 [(0, .ref b), (1, .ref (w.2.1 0)), (2, .ref (w.2.1 147)), (3, .int (nI i))] [.int r, .int r] h2
  refine l_eq (pc := 702) (tgt := 1643) X dL_law_702 (by decide) rfl ?_
  exact kk _ e3
set_option maxRecDepth 20000 in
theorem lc_course {p : Program} {l : Launch} {e : Env} {s : State} {m : MethodId} {below : List Frame} {meth : Method} {c : Code} {w : WK} {b L cells slots : Nat} {xs : Nat → Int32} {Inv : TT → Prop} {i : Nat} {h : TT} (X : LX p s m meth c w b L cells slots xs) (hi : i + 7 ≤ L) (hS : ST_course Inv) (hI : Inv h) (kk : ∀ h2, Inv h2 → GL p l e s m below meth c w b cells slots 1643 [(0, .ref b), (1, .ref (w.2.1 0)), (2, .ref (w.2.1 147)), (3, .int (nI i))] [] h2) : GL p l e s m below meth c w b cells slots 707 [(0, .ref b), (1, .ref (w.2.1 0)), (2, .ref (w.2.1 147)), (3, .int (nI i))] [] h := by
  obtain ⟨r, h1, h2, e1, e2, e3⟩ := hS h hI (xs (nI i + 1).toNatClampNeg) (xs (nI i + 2).toNatClampNeg)
  refine l_aload_n (pc := 707) X 1 rfl dL_law_707 rfl ?_
  refine l_aload_n (pc := 708) X 0 rfl dL_law_708 rfl ?_
  refine l_iload_n (pc := 709) X 3 rfl dL_law_709 rfl ?_
  refine l_iconst (pc := 710) (v := 1) X dL_law_710 kc_1 ?_
  refine l_iadd (pc := 711) X dL_law_711 ?_
  refine l_sld (pc := 712) X (in_k hi X.2.2.2.1 1 kn_1 (by decide)) dL_law_712 ?_
  refine l_aload_n (pc := 713) X 0 rfl dL_law_713 rfl ?_
  refine l_iload_n (pc := 714) X 3 rfl dL_law_714 rfl ?_
  refine l_iconst (pc := 715) (v := 2) X dL_law_715 kc_2 ?_
  refine l_iadd (pc := 716) X dL_law_716 ?_
  refine l_sld (pc := 717) X (in_k hi X.2.2.2.1 2 kn_2 (by decide)) dL_law_717 ?_
  refine l_call (pc := 718) (x1 := (some (.int r), h1)) (rest := []) X mv_RL_70 (m_X7_course e1) so_RX7 rfl (by decide) rfl rfl (Nat.le_of_ble_eq_true rfl) dL_law_718 ?_
  show GL p l e s m below meth c w b cells slots 721 [(0, .ref b), (1, .ref (w.2.1 0)), (2, .ref (w.2.1 147)), (3, .int (nI i))] [.int r] h1
  refine l_aload_n (pc := 721) X 2 rfl dL_law_721 rfl ?_
  refine l_aload_n (pc := 722) X 0 rfl dL_law_722 rfl ?_
  refine l_iload_n (pc := 723) X 3 rfl dL_law_723 rfl ?_
  refine l_iconst (pc := 724) (v := 1) X dL_law_724 kc_1 ?_
  refine l_iadd (pc := 725) X dL_law_725 ?_
  refine l_sld (pc := 726) X (in_k hi X.2.2.2.1 1 kn_1 (by decide)) dL_law_726 ?_
  refine l_aload_n (pc := 727) X 0 rfl dL_law_727 rfl ?_
  refine l_iload_n (pc := 728) X 3 rfl dL_law_728 rfl ?_
  refine l_iconst (pc := 729) (v := 2) X dL_law_729 kc_2 ?_
  refine l_iadd (pc := 730) X dL_law_730 ?_
  refine l_sld (pc := 731) X (in_k hi X.2.2.2.1 2 kn_2 (by decide)) dL_law_731 ?_
  refine l_call (pc := 732) (x1 := (some (.int r), h2)) (rest := [.int r]) X mv_RL_73 (m_X8_course e2) so_RX8 rfl (by decide) rfl rfl (Nat.le_of_ble_eq_true rfl) dL_law_732 ?_
  show GL p l e s m below meth c w b cells slots 735 [(0, .ref b), (1, .ref (w.2.1 0)), (2, .ref (w.2.1 147)), (3, .int (nI i))] [.int r, .int r] h2
  refine l_eq (pc := 735) (tgt := 1643) X dL_law_735 (by decide) rfl ?_
  exact kk _ e3
set_option maxRecDepth 20000 in
theorem lc_house {p : Program} {l : Launch} {e : Env} {s : State} {m : MethodId} {below : List Frame} {meth : Method} {c : Code} {w : WK} {b L cells slots : Nat} {xs : Nat → Int32} {Inv : TT → Prop} {i : Nat} {h : TT} (X : LX p s m meth c w b L cells slots xs) (hi : i + 7 ≤ L) (hS : ST_house Inv) (hI : Inv h) (kk : ∀ h2, Inv h2 → GL p l e s m below meth c w b cells slots 1643 [(0, .ref b), (1, .ref (w.2.1 0)), (2, .ref (w.2.1 147)), (3, .int (nI i))] [] h2) : GL p l e s m below meth c w b cells slots 740 [(0, .ref b), (1, .ref (w.2.1 0)), (2, .ref (w.2.1 147)), (3, .int (nI i))] [] h := by
  obtain ⟨r, h1, h2, e1, e2, e3⟩ := hS h hI (xs (nI i + 1).toNatClampNeg) (xs (nI i + 2).toNatClampNeg) (xs (nI i + 3).toNatClampNeg)
  refine l_aload_n (pc := 740) X 1 rfl dL_law_740 rfl ?_
  refine l_aload_n (pc := 741) X 0 rfl dL_law_741 rfl ?_
  refine l_iload_n (pc := 742) X 3 rfl dL_law_742 rfl ?_
  refine l_iconst (pc := 743) (v := 1) X dL_law_743 kc_1 ?_
  refine l_iadd (pc := 744) X dL_law_744 ?_
  refine l_sld (pc := 745) X (in_k hi X.2.2.2.1 1 kn_1 (by decide)) dL_law_745 ?_
  refine l_aload_n (pc := 746) X 0 rfl dL_law_746 rfl ?_
  refine l_iload_n (pc := 747) X 3 rfl dL_law_747 rfl ?_
  refine l_iconst (pc := 748) (v := 2) X dL_law_748 kc_2 ?_
  refine l_iadd (pc := 749) X dL_law_749 ?_
  refine l_sld (pc := 750) X (in_k hi X.2.2.2.1 2 kn_2 (by decide)) dL_law_750 ?_
  refine l_aload_n (pc := 751) X 0 rfl dL_law_751 rfl ?_
  refine l_iload_n (pc := 752) X 3 rfl dL_law_752 rfl ?_
  refine l_iconst (pc := 753) (v := 3) X dL_law_753 kc_3 ?_
  refine l_iadd (pc := 754) X dL_law_754 ?_
  refine l_sld (pc := 755) X (in_k hi X.2.2.2.1 3 kn_3 (by decide)) dL_law_755 ?_
  refine l_call (pc := 756) (x1 := (some (.int r), h1)) (rest := []) X mv_RL_74 (m_X7_house e1) so_RX7 rfl (by decide) rfl rfl (Nat.le_of_ble_eq_true rfl) dL_law_756 ?_
  show GL p l e s m below meth c w b cells slots 759 [(0, .ref b), (1, .ref (w.2.1 0)), (2, .ref (w.2.1 147)), (3, .int (nI i))] [.int r] h1
  refine l_aload_n (pc := 759) X 2 rfl dL_law_759 rfl ?_
  refine l_aload_n (pc := 760) X 0 rfl dL_law_760 rfl ?_
  refine l_iload_n (pc := 761) X 3 rfl dL_law_761 rfl ?_
  refine l_iconst (pc := 762) (v := 1) X dL_law_762 kc_1 ?_
  refine l_iadd (pc := 763) X dL_law_763 ?_
  refine l_sld (pc := 764) X (in_k hi X.2.2.2.1 1 kn_1 (by decide)) dL_law_764 ?_
  refine l_aload_n (pc := 765) X 0 rfl dL_law_765 rfl ?_
  refine l_iload_n (pc := 766) X 3 rfl dL_law_766 rfl ?_
  refine l_iconst (pc := 767) (v := 2) X dL_law_767 kc_2 ?_
  refine l_iadd (pc := 768) X dL_law_768 ?_
  refine l_sld (pc := 769) X (in_k hi X.2.2.2.1 2 kn_2 (by decide)) dL_law_769 ?_
  refine l_aload_n (pc := 770) X 0 rfl dL_law_770 rfl ?_
  refine l_iload_n (pc := 771) X 3 rfl dL_law_771 rfl ?_
  refine l_iconst (pc := 772) (v := 3) X dL_law_772 kc_3 ?_
  refine l_iadd (pc := 773) X dL_law_773 ?_
  refine l_sld (pc := 774) X (in_k hi X.2.2.2.1 3 kn_3 (by decide)) dL_law_774 ?_
  refine l_call (pc := 775) (x1 := (some (.int r), h2)) (rest := [.int r]) X mv_RL_77 (m_X8_house e2) so_RX8 rfl (by decide) rfl rfl (Nat.le_of_ble_eq_true rfl) dL_law_775 ?_
  show GL p l e s m below meth c w b cells slots 778 [(0, .ref b), (1, .ref (w.2.1 0)), (2, .ref (w.2.1 147)), (3, .int (nI i))] [.int r, .int r] h2
  refine l_eq (pc := 778) (tgt := 1643) X dL_law_778 (by decide) rfl ?_
  exact kk _ e3
set_option maxRecDepth 20000 in
theorem lc_go {p : Program} {l : Launch} {e : Env} {s : State} {m : MethodId} {below : List Frame} {meth : Method} {c : Code} {w : WK} {b L cells slots : Nat} {xs : Nat → Int32} {Inv : TT → Prop} {i : Nat} {h : TT} (X : LX p s m meth c w b L cells slots xs) (hi : i + 7 ≤ L) (hS : ST_go Inv) (hI : Inv h) (kk : ∀ h2, Inv h2 → GL p l e s m below meth c w b cells slots 1643 [(0, .ref b), (1, .ref (w.2.1 0)), (2, .ref (w.2.1 147)), (3, .int (nI i))] [] h2) : GL p l e s m below meth c w b cells slots 783 [(0, .ref b), (1, .ref (w.2.1 0)), (2, .ref (w.2.1 147)), (3, .int (nI i))] [] h := by
  obtain ⟨r, h1, h2, e1, e2, e3⟩ := hS h hI (xs (nI i + 1).toNatClampNeg)
  refine l_aload_n (pc := 783) X 1 rfl dL_law_783 rfl ?_
  refine l_aload_n (pc := 784) X 0 rfl dL_law_784 rfl ?_
  refine l_iload_n (pc := 785) X 3 rfl dL_law_785 rfl ?_
  refine l_iconst (pc := 786) (v := 1) X dL_law_786 kc_1 ?_
  refine l_iadd (pc := 787) X dL_law_787 ?_
  refine l_sld (pc := 788) X (in_k hi X.2.2.2.1 1 kn_1 (by decide)) dL_law_788 ?_
  refine l_call (pc := 789) (x1 := (some (.int r), h1)) (rest := []) X mv_RL_78 (m_X7_go e1) so_RX7 rfl (by decide) rfl rfl (Nat.le_of_ble_eq_true rfl) dL_law_789 ?_
  show GL p l e s m below meth c w b cells slots 792 [(0, .ref b), (1, .ref (w.2.1 0)), (2, .ref (w.2.1 147)), (3, .int (nI i))] [.int r] h1
  refine l_aload_n (pc := 792) X 2 rfl dL_law_792 rfl ?_
  refine l_aload_n (pc := 793) X 0 rfl dL_law_793 rfl ?_
  refine l_iload_n (pc := 794) X 3 rfl dL_law_794 rfl ?_
  refine l_iconst (pc := 795) (v := 1) X dL_law_795 kc_1 ?_
  refine l_iadd (pc := 796) X dL_law_796 ?_
  refine l_sld (pc := 797) X (in_k hi X.2.2.2.1 1 kn_1 (by decide)) dL_law_797 ?_
  refine l_call (pc := 798) (x1 := (some (.int r), h2)) (rest := [.int r]) X mv_RL_81 (m_X8_go e2) so_RX8 rfl (by decide) rfl rfl (Nat.le_of_ble_eq_true rfl) dL_law_798 ?_
  show GL p l e s m below meth c w b cells slots 801 [(0, .ref b), (1, .ref (w.2.1 0)), (2, .ref (w.2.1 147)), (3, .int (nI i))] [.int r, .int r] h2
  refine l_eq (pc := 801) (tgt := 1643) X dL_law_801 (by decide) rfl ?_
  exact kk _ e3
set_option maxRecDepth 20000 in
theorem lc_block {p : Program} {l : Launch} {e : Env} {s : State} {m : MethodId} {below : List Frame} {meth : Method} {c : Code} {w : WK} {b L cells slots : Nat} {xs : Nat → Int32} {Inv : TT → Prop} {i : Nat} {h : TT} (X : LX p s m meth c w b L cells slots xs) (hi : i + 7 ≤ L) (hS : ST_block Inv) (hI : Inv h) (kk : ∀ h2, Inv h2 → GL p l e s m below meth c w b cells slots 1643 [(0, .ref b), (1, .ref (w.2.1 0)), (2, .ref (w.2.1 147)), (3, .int (nI i))] [] h2) : GL p l e s m below meth c w b cells slots 806 [(0, .ref b), (1, .ref (w.2.1 0)), (2, .ref (w.2.1 147)), (3, .int (nI i))] [] h := by
  obtain ⟨r, h1, h2, e1, e2, e3⟩ := hS h hI (xs (nI i + 1).toNatClampNeg) (xs (nI i + 2).toNatClampNeg)
  refine l_aload_n (pc := 806) X 1 rfl dL_law_806 rfl ?_
  refine l_aload_n (pc := 807) X 0 rfl dL_law_807 rfl ?_
  refine l_iload_n (pc := 808) X 3 rfl dL_law_808 rfl ?_
  refine l_iconst (pc := 809) (v := 1) X dL_law_809 kc_1 ?_
  refine l_iadd (pc := 810) X dL_law_810 ?_
  refine l_sld (pc := 811) X (in_k hi X.2.2.2.1 1 kn_1 (by decide)) dL_law_811 ?_
  refine l_aload_n (pc := 812) X 0 rfl dL_law_812 rfl ?_
  refine l_iload_n (pc := 813) X 3 rfl dL_law_813 rfl ?_
  refine l_iconst (pc := 814) (v := 2) X dL_law_814 kc_2 ?_
  refine l_iadd (pc := 815) X dL_law_815 ?_
  refine l_sld (pc := 816) X (in_k hi X.2.2.2.1 2 kn_2 (by decide)) dL_law_816 ?_
  refine l_call (pc := 817) (x1 := (some (.int r), h1)) (rest := []) X mv_RL_82 (m_X7_block e1) so_RX7 rfl (by decide) rfl rfl (Nat.le_of_ble_eq_true rfl) dL_law_817 ?_
  show GL p l e s m below meth c w b cells slots 820 [(0, .ref b), (1, .ref (w.2.1 0)), (2, .ref (w.2.1 147)), (3, .int (nI i))] [.int r] h1
  refine l_aload_n (pc := 820) X 2 rfl dL_law_820 rfl ?_
  refine l_aload_n (pc := 821) X 0 rfl dL_law_821 rfl ?_
  refine l_iload_n (pc := 822) X 3 rfl dL_law_822 rfl ?_
  refine l_iconst (pc := 823) (v := 1) X dL_law_823 kc_1 ?_
  refine l_iadd (pc := 824) X dL_law_824 ?_
  refine l_sld (pc := 825) X (in_k hi X.2.2.2.1 1 kn_1 (by decide)) dL_law_825 ?_
  refine l_aload_n (pc := 826) X 0 rfl dL_law_826 rfl ?_
  refine l_iload_n (pc := 827) X 3 rfl dL_law_827 rfl ?_
  refine l_iconst (pc := 828) (v := 2) X dL_law_828 kc_2 ?_
  refine l_iadd (pc := 829) X dL_law_829 ?_
  refine l_sld (pc := 830) X (in_k hi X.2.2.2.1 2 kn_2 (by decide)) dL_law_830 ?_
  refine l_call (pc := 831) (x1 := (some (.int r), h2)) (rest := [.int r]) X mv_RL_85 (m_X8_block e2) so_RX8 rfl (by decide) rfl rfl (Nat.le_of_ble_eq_true rfl) dL_law_831 ?_
  show GL p l e s m below meth c w b cells slots 834 [(0, .ref b), (1, .ref (w.2.1 0)), (2, .ref (w.2.1 147)), (3, .int (nI i))] [.int r, .int r] h2
  refine l_eq (pc := 834) (tgt := 1643) X dL_law_834 (by decide) rfl ?_
  exact kk _ e3
set_option maxRecDepth 20000 in
theorem lc_pull {p : Program} {l : Launch} {e : Env} {s : State} {m : MethodId} {below : List Frame} {meth : Method} {c : Code} {w : WK} {b L cells slots : Nat} {xs : Nat → Int32} {Inv : TT → Prop} {i : Nat} {h : TT} (X : LX p s m meth c w b L cells slots xs) (hi : i + 7 ≤ L) (hS : ST_pull Inv) (hI : Inv h) (kk : ∀ h2, Inv h2 → GL p l e s m below meth c w b cells slots 1643 [(0, .ref b), (1, .ref (w.2.1 0)), (2, .ref (w.2.1 147)), (3, .int (nI i))] [] h2) : GL p l e s m below meth c w b cells slots 839 [(0, .ref b), (1, .ref (w.2.1 0)), (2, .ref (w.2.1 147)), (3, .int (nI i))] [] h := by
  obtain ⟨r, h1, h2, e1, e2, e3⟩ := hS h hI (xs (nI i + 1).toNatClampNeg)
  refine l_aload_n (pc := 839) X 1 rfl dL_law_839 rfl ?_
  refine l_aload_n (pc := 840) X 0 rfl dL_law_840 rfl ?_
  refine l_iload_n (pc := 841) X 3 rfl dL_law_841 rfl ?_
  refine l_iconst (pc := 842) (v := 1) X dL_law_842 kc_1 ?_
  refine l_iadd (pc := 843) X dL_law_843 ?_
  refine l_sld (pc := 844) X (in_k hi X.2.2.2.1 1 kn_1 (by decide)) dL_law_844 ?_
  refine l_call (pc := 845) (x1 := (some (.int r), h1)) (rest := []) X mv_RL_86 (m_X7_pull e1) so_RX7 rfl (by decide) rfl rfl (Nat.le_of_ble_eq_true rfl) dL_law_845 ?_
  show GL p l e s m below meth c w b cells slots 848 [(0, .ref b), (1, .ref (w.2.1 0)), (2, .ref (w.2.1 147)), (3, .int (nI i))] [.int r] h1
  refine l_aload_n (pc := 848) X 2 rfl dL_law_848 rfl ?_
  refine l_aload_n (pc := 849) X 0 rfl dL_law_849 rfl ?_
  refine l_iload_n (pc := 850) X 3 rfl dL_law_850 rfl ?_
  refine l_iconst (pc := 851) (v := 1) X dL_law_851 kc_1 ?_
  refine l_iadd (pc := 852) X dL_law_852 ?_
  refine l_sld (pc := 853) X (in_k hi X.2.2.2.1 1 kn_1 (by decide)) dL_law_853 ?_
  refine l_call (pc := 854) (x1 := (some (.int r), h2)) (rest := [.int r]) X mv_RL_89 (m_X8_pull e2) so_RX8 rfl (by decide) rfl rfl (Nat.le_of_ble_eq_true rfl) dL_law_854 ?_
  show GL p l e s m below meth c w b cells slots 857 [(0, .ref b), (1, .ref (w.2.1 0)), (2, .ref (w.2.1 147)), (3, .int (nI i))] [.int r, .int r] h2
  refine l_eq (pc := 857) (tgt := 1643) X dL_law_857 (by decide) rfl ?_
  exact kk _ e3
set_option maxRecDepth 20000 in
theorem lc_mark {p : Program} {l : Launch} {e : Env} {s : State} {m : MethodId} {below : List Frame} {meth : Method} {c : Code} {w : WK} {b L cells slots : Nat} {xs : Nat → Int32} {Inv : TT → Prop} {i : Nat} {h : TT} (X : LX p s m meth c w b L cells slots xs) (hi : i + 7 ≤ L) (hS : ST_mark Inv) (hI : Inv h) (kk : ∀ h2, Inv h2 → GL p l e s m below meth c w b cells slots 1643 [(0, .ref b), (1, .ref (w.2.1 0)), (2, .ref (w.2.1 147)), (3, .int (nI i))] [] h2) : GL p l e s m below meth c w b cells slots 862 [(0, .ref b), (1, .ref (w.2.1 0)), (2, .ref (w.2.1 147)), (3, .int (nI i))] [] h := by
  obtain ⟨r, h1, h2, e1, e2, e3⟩ := hS h hI (xs (nI i + 1).toNatClampNeg) (xs (nI i + 2).toNatClampNeg)
  refine l_aload_n (pc := 862) X 1 rfl dL_law_862 rfl ?_
  refine l_aload_n (pc := 863) X 0 rfl dL_law_863 rfl ?_
  refine l_iload_n (pc := 864) X 3 rfl dL_law_864 rfl ?_
  refine l_iconst (pc := 865) (v := 1) X dL_law_865 kc_1 ?_
  refine l_iadd (pc := 866) X dL_law_866 ?_
  refine l_sld (pc := 867) X (in_k hi X.2.2.2.1 1 kn_1 (by decide)) dL_law_867 ?_
  refine l_aload_n (pc := 868) X 0 rfl dL_law_868 rfl ?_
  refine l_iload_n (pc := 869) X 3 rfl dL_law_869 rfl ?_
  refine l_iconst (pc := 870) (v := 2) X dL_law_870 kc_2 ?_
  refine l_iadd (pc := 871) X dL_law_871 ?_
  refine l_sld (pc := 872) X (in_k hi X.2.2.2.1 2 kn_2 (by decide)) dL_law_872 ?_
  refine l_call (pc := 873) (x1 := (some (.int r), h1)) (rest := []) X mv_RL_90 (m_X7_mark e1) so_RX7 rfl (by decide) rfl rfl (Nat.le_of_ble_eq_true rfl) dL_law_873 ?_
  show GL p l e s m below meth c w b cells slots 876 [(0, .ref b), (1, .ref (w.2.1 0)), (2, .ref (w.2.1 147)), (3, .int (nI i))] [.int r] h1
  refine l_aload_n (pc := 876) X 2 rfl dL_law_876 rfl ?_
  refine l_aload_n (pc := 877) X 0 rfl dL_law_877 rfl ?_
  refine l_iload_n (pc := 878) X 3 rfl dL_law_878 rfl ?_
  refine l_iconst (pc := 879) (v := 1) X dL_law_879 kc_1 ?_
  refine l_iadd (pc := 880) X dL_law_880 ?_
  refine l_sld (pc := 881) X (in_k hi X.2.2.2.1 1 kn_1 (by decide)) dL_law_881 ?_
  refine l_aload_n (pc := 882) X 0 rfl dL_law_882 rfl ?_
  refine l_iload_n (pc := 883) X 3 rfl dL_law_883 rfl ?_
  refine l_iconst (pc := 884) (v := 2) X dL_law_884 kc_2 ?_
  refine l_iadd (pc := 885) X dL_law_885 ?_
  refine l_sld (pc := 886) X (in_k hi X.2.2.2.1 2 kn_2 (by decide)) dL_law_886 ?_
  refine l_call (pc := 887) (x1 := (some (.int r), h2)) (rest := [.int r]) X mv_RL_93 (m_X8_mark e2) so_RX8 rfl (by decide) rfl rfl (Nat.le_of_ble_eq_true rfl) dL_law_887 ?_
  show GL p l e s m below meth c w b cells slots 890 [(0, .ref b), (1, .ref (w.2.1 0)), (2, .ref (w.2.1 147)), (3, .int (nI i))] [.int r, .int r] h2
  refine l_eq (pc := 890) (tgt := 1643) X dL_law_890 (by decide) rfl ?_
  exact kk _ e3
set_option maxRecDepth 20000 in
theorem lc_door {p : Program} {l : Launch} {e : Env} {s : State} {m : MethodId} {below : List Frame} {meth : Method} {c : Code} {w : WK} {b L cells slots : Nat} {xs : Nat → Int32} {Inv : TT → Prop} {i : Nat} {h : TT} (X : LX p s m meth c w b L cells slots xs) (hi : i + 7 ≤ L) (hS : ST_door Inv) (hI : Inv h) (kk : ∀ h2, Inv h2 → GL p l e s m below meth c w b cells slots 1643 [(0, .ref b), (1, .ref (w.2.1 0)), (2, .ref (w.2.1 147)), (3, .int (nI i))] [] h2) : GL p l e s m below meth c w b cells slots 895 [(0, .ref b), (1, .ref (w.2.1 0)), (2, .ref (w.2.1 147)), (3, .int (nI i))] [] h := by
  obtain ⟨r, h1, h2, e1, e2, e3⟩ := hS h hI (xs (nI i + 1).toNatClampNeg)
  refine l_aload_n (pc := 895) X 1 rfl dL_law_895 rfl ?_
  refine l_aload_n (pc := 896) X 0 rfl dL_law_896 rfl ?_
  refine l_iload_n (pc := 897) X 3 rfl dL_law_897 rfl ?_
  refine l_iconst (pc := 898) (v := 1) X dL_law_898 kc_1 ?_
  refine l_iadd (pc := 899) X dL_law_899 ?_
  refine l_sld (pc := 900) X (in_k hi X.2.2.2.1 1 kn_1 (by decide)) dL_law_900 ?_
  refine l_call (pc := 901) (x1 := (some (.int r), h1)) (rest := []) X mv_RL_94 (m_X7_door e1) so_RX7 rfl (by decide) rfl rfl (Nat.le_of_ble_eq_true rfl) dL_law_901 ?_
  show GL p l e s m below meth c w b cells slots 904 [(0, .ref b), (1, .ref (w.2.1 0)), (2, .ref (w.2.1 147)), (3, .int (nI i))] [.int r] h1
  refine l_aload_n (pc := 904) X 2 rfl dL_law_904 rfl ?_
  refine l_aload_n (pc := 905) X 0 rfl dL_law_905 rfl ?_
  refine l_iload_n (pc := 906) X 3 rfl dL_law_906 rfl ?_
  refine l_iconst (pc := 907) (v := 1) X dL_law_907 kc_1 ?_
  refine l_iadd (pc := 908) X dL_law_908 ?_
  refine l_sld (pc := 909) X (in_k hi X.2.2.2.1 1 kn_1 (by decide)) dL_law_909 ?_
  refine l_call (pc := 910) (x1 := (some (.int r), h2)) (rest := [.int r]) X mv_RL_97 (m_X8_door e2) so_RX8 rfl (by decide) rfl rfl (Nat.le_of_ble_eq_true rfl) dL_law_910 ?_
  show GL p l e s m below meth c w b cells slots 913 [(0, .ref b), (1, .ref (w.2.1 0)), (2, .ref (w.2.1 147)), (3, .int (nI i))] [.int r, .int r] h2
  refine l_eq (pc := 913) (tgt := 1643) X dL_law_913 (by decide) rfl ?_
  exact kk _ e3
set_option maxRecDepth 20000 in
theorem lc_keep {p : Program} {l : Launch} {e : Env} {s : State} {m : MethodId} {below : List Frame} {meth : Method} {c : Code} {w : WK} {b L cells slots : Nat} {xs : Nat → Int32} {Inv : TT → Prop} {i : Nat} {h : TT} (X : LX p s m meth c w b L cells slots xs) (hi : i + 7 ≤ L) (hS : ST_keep Inv) (hI : Inv h) (kk : ∀ h2, Inv h2 → GL p l e s m below meth c w b cells slots 1643 [(0, .ref b), (1, .ref (w.2.1 0)), (2, .ref (w.2.1 147)), (3, .int (nI i))] [] h2) : GL p l e s m below meth c w b cells slots 918 [(0, .ref b), (1, .ref (w.2.1 0)), (2, .ref (w.2.1 147)), (3, .int (nI i))] [] h := by
  obtain ⟨r, h1, h2, e1, e2, e3⟩ := hS h hI (xs (nI i + 1).toNatClampNeg)
  refine l_aload_n (pc := 918) X 1 rfl dL_law_918 rfl ?_
  refine l_aload_n (pc := 919) X 0 rfl dL_law_919 rfl ?_
  refine l_iload_n (pc := 920) X 3 rfl dL_law_920 rfl ?_
  refine l_iconst (pc := 921) (v := 1) X dL_law_921 kc_1 ?_
  refine l_iadd (pc := 922) X dL_law_922 ?_
  refine l_sld (pc := 923) X (in_k hi X.2.2.2.1 1 kn_1 (by decide)) dL_law_923 ?_
  refine l_call (pc := 924) (x1 := (some (.int r), h1)) (rest := []) X mv_RL_98 (m_X7_keep e1) so_RX7 rfl (by decide) rfl rfl (Nat.le_of_ble_eq_true rfl) dL_law_924 ?_
  show GL p l e s m below meth c w b cells slots 927 [(0, .ref b), (1, .ref (w.2.1 0)), (2, .ref (w.2.1 147)), (3, .int (nI i))] [.int r] h1
  refine l_aload_n (pc := 927) X 2 rfl dL_law_927 rfl ?_
  refine l_aload_n (pc := 928) X 0 rfl dL_law_928 rfl ?_
  refine l_iload_n (pc := 929) X 3 rfl dL_law_929 rfl ?_
  refine l_iconst (pc := 930) (v := 1) X dL_law_930 kc_1 ?_
  refine l_iadd (pc := 931) X dL_law_931 ?_
  refine l_sld (pc := 932) X (in_k hi X.2.2.2.1 1 kn_1 (by decide)) dL_law_932 ?_
  refine l_call (pc := 933) (x1 := (some (.int r), h2)) (rest := [.int r]) X mv_RL_101 (m_X8_keep e2) so_RX8 rfl (by decide) rfl rfl (Nat.le_of_ble_eq_true rfl) dL_law_933 ?_
  show GL p l e s m below meth c w b cells slots 936 [(0, .ref b), (1, .ref (w.2.1 0)), (2, .ref (w.2.1 147)), (3, .int (nI i))] [.int r, .int r] h2
  refine l_eq (pc := 936) (tgt := 1643) X dL_law_936 (by decide) rfl ?_
  exact kk _ e3
set_option maxRecDepth 20000 in
theorem lc_on {p : Program} {l : Launch} {e : Env} {s : State} {m : MethodId} {below : List Frame} {meth : Method} {c : Code} {w : WK} {b L cells slots : Nat} {xs : Nat → Int32} {Inv : TT → Prop} {i : Nat} {h : TT} (X : LX p s m meth c w b L cells slots xs) (hi : i + 7 ≤ L) (hS : ST_on Inv) (hI : Inv h) (kk : ∀ h2, Inv h2 → GL p l e s m below meth c w b cells slots 1643 [(0, .ref b), (1, .ref (w.2.1 0)), (2, .ref (w.2.1 147)), (3, .int (nI i))] [] h2) : GL p l e s m below meth c w b cells slots 941 [(0, .ref b), (1, .ref (w.2.1 0)), (2, .ref (w.2.1 147)), (3, .int (nI i))] [] h := by
  obtain ⟨r, h1, h2, e1, e2, e3⟩ := hS h hI (xs (nI i + 1).toNatClampNeg)
  refine l_aload_n (pc := 941) X 1 rfl dL_law_941 rfl ?_
  refine l_aload_n (pc := 942) X 0 rfl dL_law_942 rfl ?_
  refine l_iload_n (pc := 943) X 3 rfl dL_law_943 rfl ?_
  refine l_iconst (pc := 944) (v := 1) X dL_law_944 kc_1 ?_
  refine l_iadd (pc := 945) X dL_law_945 ?_
  refine l_sld (pc := 946) X (in_k hi X.2.2.2.1 1 kn_1 (by decide)) dL_law_946 ?_
  refine l_call (pc := 947) (x1 := (some (.int r), h1)) (rest := []) X mv_RL_102 (m_X7_on e1) so_RX7 rfl (by decide) rfl rfl (Nat.le_of_ble_eq_true rfl) dL_law_947 ?_
  show GL p l e s m below meth c w b cells slots 950 [(0, .ref b), (1, .ref (w.2.1 0)), (2, .ref (w.2.1 147)), (3, .int (nI i))] [.int r] h1
  refine l_aload_n (pc := 950) X 2 rfl dL_law_950 rfl ?_
  refine l_aload_n (pc := 951) X 0 rfl dL_law_951 rfl ?_
  refine l_iload_n (pc := 952) X 3 rfl dL_law_952 rfl ?_
  refine l_iconst (pc := 953) (v := 1) X dL_law_953 kc_1 ?_
  refine l_iadd (pc := 954) X dL_law_954 ?_
  refine l_sld (pc := 955) X (in_k hi X.2.2.2.1 1 kn_1 (by decide)) dL_law_955 ?_
  refine l_call (pc := 956) (x1 := (some (.int r), h2)) (rest := [.int r]) X mv_RL_105 (m_X8_on e2) so_RX8 rfl (by decide) rfl rfl (Nat.le_of_ble_eq_true rfl) dL_law_956 ?_
  show GL p l e s m below meth c w b cells slots 959 [(0, .ref b), (1, .ref (w.2.1 0)), (2, .ref (w.2.1 147)), (3, .int (nI i))] [.int r, .int r] h2
  refine l_eq (pc := 959) (tgt := 1643) X dL_law_959 (by decide) rfl ?_
  exact kk _ e3
set_option maxRecDepth 20000 in
theorem lc_slumped {p : Program} {l : Launch} {e : Env} {s : State} {m : MethodId} {below : List Frame} {meth : Method} {c : Code} {w : WK} {b L cells slots : Nat} {xs : Nat → Int32} {Inv : TT → Prop} {i : Nat} {h : TT} (X : LX p s m meth c w b L cells slots xs) (hi : i + 7 ≤ L) (hS : ST_slumped Inv) (hI : Inv h) (kk : ∀ h2, Inv h2 → GL p l e s m below meth c w b cells slots 1643 [(0, .ref b), (1, .ref (w.2.1 0)), (2, .ref (w.2.1 147)), (3, .int (nI i))] [] h2) : GL p l e s m below meth c w b cells slots 964 [(0, .ref b), (1, .ref (w.2.1 0)), (2, .ref (w.2.1 147)), (3, .int (nI i))] [] h := by
  obtain ⟨r, h1, h2, e1, e2, e3⟩ := hS h hI 
  refine l_aload_n (pc := 964) X 1 rfl dL_law_964 rfl ?_
  refine l_call (pc := 965) (x1 := (some (.int r), h1)) (rest := []) X mv_RL_106 (m_X7_slumped e1) so_RX7 rfl (by decide) rfl rfl (Nat.le_of_ble_eq_true rfl) dL_law_965 ?_
  show GL p l e s m below meth c w b cells slots 968 [(0, .ref b), (1, .ref (w.2.1 0)), (2, .ref (w.2.1 147)), (3, .int (nI i))] [.int r] h1
  refine l_aload_n (pc := 968) X 2 rfl dL_law_968 rfl ?_
  refine l_call (pc := 969) (x1 := (some (.int r), h2)) (rest := [.int r]) X mv_RL_110 (m_X8_slumped e2) so_RX8 rfl (by decide) rfl rfl (Nat.le_of_ble_eq_true rfl) dL_law_969 ?_
  show GL p l e s m below meth c w b cells slots 972 [(0, .ref b), (1, .ref (w.2.1 0)), (2, .ref (w.2.1 147)), (3, .int (nI i))] [.int r, .int r] h2
  refine l_eq (pc := 972) (tgt := 1643) X dL_law_972 (by decide) rfl ?_
  exact kk _ e3
set_option maxRecDepth 20000 in
theorem lc_falls {p : Program} {l : Launch} {e : Env} {s : State} {m : MethodId} {below : List Frame} {meth : Method} {c : Code} {w : WK} {b L cells slots : Nat} {xs : Nat → Int32} {Inv : TT → Prop} {i : Nat} {h : TT} (X : LX p s m meth c w b L cells slots xs) (hi : i + 7 ≤ L) (hS : ST_falls Inv) (hI : Inv h) (kk : ∀ h2, Inv h2 → GL p l e s m below meth c w b cells slots 1643 [(0, .ref b), (1, .ref (w.2.1 0)), (2, .ref (w.2.1 147)), (3, .int (nI i))] [] h2) : GL p l e s m below meth c w b cells slots 977 [(0, .ref b), (1, .ref (w.2.1 0)), (2, .ref (w.2.1 147)), (3, .int (nI i))] [] h := by
  obtain ⟨r, h1, h2, e1, e2, e3⟩ := hS h hI 
  refine l_aload_n (pc := 977) X 1 rfl dL_law_977 rfl ?_
  refine l_call (pc := 978) (x1 := (some (.int r), h1)) (rest := []) X mv_RL_111 (m_X7_falls e1) so_RX7 rfl (by decide) rfl rfl (Nat.le_of_ble_eq_true rfl) dL_law_978 ?_
  show GL p l e s m below meth c w b cells slots 981 [(0, .ref b), (1, .ref (w.2.1 0)), (2, .ref (w.2.1 147)), (3, .int (nI i))] [.int r] h1
  refine l_aload_n (pc := 981) X 2 rfl dL_law_981 rfl ?_
  refine l_call (pc := 982) (x1 := (some (.int r), h2)) (rest := [.int r]) X mv_RL_114 (m_X8_falls e2) so_RX8 rfl (by decide) rfl rfl (Nat.le_of_ble_eq_true rfl) dL_law_982 ?_
  show GL p l e s m below meth c w b cells slots 985 [(0, .ref b), (1, .ref (w.2.1 0)), (2, .ref (w.2.1 147)), (3, .int (nI i))] [.int r, .int r] h2
  refine l_eq (pc := 985) (tgt := 1643) X dL_law_985 (by decide) rfl ?_
  exact kk _ e3
set_option maxRecDepth 20000 in
theorem lc_pace {p : Program} {l : Launch} {e : Env} {s : State} {m : MethodId} {below : List Frame} {meth : Method} {c : Code} {w : WK} {b L cells slots : Nat} {xs : Nat → Int32} {Inv : TT → Prop} {i : Nat} {h : TT} (X : LX p s m meth c w b L cells slots xs) (hi : i + 7 ≤ L) (hS : ST_pace Inv) (hI : Inv h) (kk : ∀ h2, Inv h2 → GL p l e s m below meth c w b cells slots 1643 [(0, .ref b), (1, .ref (w.2.1 0)), (2, .ref (w.2.1 147)), (3, .int (nI i))] [] h2) : GL p l e s m below meth c w b cells slots 990 [(0, .ref b), (1, .ref (w.2.1 0)), (2, .ref (w.2.1 147)), (3, .int (nI i))] [] h := by
  obtain ⟨r, h1, h2, e1, e2, e3⟩ := hS h hI (xs (nI i + 1).toNatClampNeg)
  refine l_aload_n (pc := 990) X 1 rfl dL_law_990 rfl ?_
  refine l_aload_n (pc := 991) X 0 rfl dL_law_991 rfl ?_
  refine l_iload_n (pc := 992) X 3 rfl dL_law_992 rfl ?_
  refine l_iconst (pc := 993) (v := 1) X dL_law_993 kc_1 ?_
  refine l_iadd (pc := 994) X dL_law_994 ?_
  refine l_sld (pc := 995) X (in_k hi X.2.2.2.1 1 kn_1 (by decide)) dL_law_995 ?_
  refine l_call (pc := 996) (x1 := (some (.int r), h1)) (rest := []) X mv_RL_115 (m_X7_pace e1) so_RX7 rfl (by decide) rfl rfl (Nat.le_of_ble_eq_true rfl) dL_law_996 ?_
  show GL p l e s m below meth c w b cells slots 999 [(0, .ref b), (1, .ref (w.2.1 0)), (2, .ref (w.2.1 147)), (3, .int (nI i))] [.int r] h1
  refine l_aload_n (pc := 999) X 2 rfl dL_law_999 rfl ?_
  refine l_aload_n (pc := 1000) X 0 rfl dL_law_1000 rfl ?_
  refine l_iload_n (pc := 1001) X 3 rfl dL_law_1001 rfl ?_
  refine l_iconst (pc := 1002) (v := 1) X dL_law_1002 kc_1 ?_
  refine l_iadd (pc := 1003) X dL_law_1003 ?_
  refine l_sld (pc := 1004) X (in_k hi X.2.2.2.1 1 kn_1 (by decide)) dL_law_1004 ?_
  refine l_call (pc := 1005) (x1 := (some (.int r), h2)) (rest := [.int r]) X mv_RL_118 (m_X8_pace e2) so_RX8 rfl (by decide) rfl rfl (Nat.le_of_ble_eq_true rfl) dL_law_1005 ?_
  show GL p l e s m below meth c w b cells slots 1008 [(0, .ref b), (1, .ref (w.2.1 0)), (2, .ref (w.2.1 147)), (3, .int (nI i))] [.int r, .int r] h2
  refine l_eq (pc := 1008) (tgt := 1643) X dL_law_1008 (by decide) rfl ?_
  exact kk _ e3
set_option maxRecDepth 20000 in
theorem lc_lean {p : Program} {l : Launch} {e : Env} {s : State} {m : MethodId} {below : List Frame} {meth : Method} {c : Code} {w : WK} {b L cells slots : Nat} {xs : Nat → Int32} {Inv : TT → Prop} {i : Nat} {h : TT} (X : LX p s m meth c w b L cells slots xs) (hi : i + 7 ≤ L) (hS : ST_lean Inv) (hI : Inv h) (kk : ∀ h2, Inv h2 → GL p l e s m below meth c w b cells slots 1643 [(0, .ref b), (1, .ref (w.2.1 0)), (2, .ref (w.2.1 147)), (3, .int (nI i))] [] h2) : GL p l e s m below meth c w b cells slots 1013 [(0, .ref b), (1, .ref (w.2.1 0)), (2, .ref (w.2.1 147)), (3, .int (nI i))] [] h := by
  obtain ⟨r, h1, h2, e1, e2, e3⟩ := hS h hI (xs (nI i + 1).toNatClampNeg)
  refine l_aload_n (pc := 1013) X 1 rfl dL_law_1013 rfl ?_
  refine l_aload_n (pc := 1014) X 0 rfl dL_law_1014 rfl ?_
  refine l_iload_n (pc := 1015) X 3 rfl dL_law_1015 rfl ?_
  refine l_iconst (pc := 1016) (v := 1) X dL_law_1016 kc_1 ?_
  refine l_iadd (pc := 1017) X dL_law_1017 ?_
  refine l_sld (pc := 1018) X (in_k hi X.2.2.2.1 1 kn_1 (by decide)) dL_law_1018 ?_
  refine l_call (pc := 1019) (x1 := (some (.int r), h1)) (rest := []) X mv_RL_119 (m_X7_lean e1) so_RX7 rfl (by decide) rfl rfl (Nat.le_of_ble_eq_true rfl) dL_law_1019 ?_
  show GL p l e s m below meth c w b cells slots 1022 [(0, .ref b), (1, .ref (w.2.1 0)), (2, .ref (w.2.1 147)), (3, .int (nI i))] [.int r] h1
  refine l_aload_n (pc := 1022) X 2 rfl dL_law_1022 rfl ?_
  refine l_aload_n (pc := 1023) X 0 rfl dL_law_1023 rfl ?_
  refine l_iload_n (pc := 1024) X 3 rfl dL_law_1024 rfl ?_
  refine l_iconst (pc := 1025) (v := 1) X dL_law_1025 kc_1 ?_
  refine l_iadd (pc := 1026) X dL_law_1026 ?_
  refine l_sld (pc := 1027) X (in_k hi X.2.2.2.1 1 kn_1 (by decide)) dL_law_1027 ?_
  refine l_call (pc := 1028) (x1 := (some (.int r), h2)) (rest := [.int r]) X mv_RL_122 (m_X8_lean e2) so_RX8 rfl (by decide) rfl rfl (Nat.le_of_ble_eq_true rfl) dL_law_1028 ?_
  show GL p l e s m below meth c w b cells slots 1031 [(0, .ref b), (1, .ref (w.2.1 0)), (2, .ref (w.2.1 147)), (3, .int (nI i))] [.int r, .int r] h2
  refine l_eq (pc := 1031) (tgt := 1643) X dL_law_1031 (by decide) rfl ?_
  exact kk _ e3
set_option maxRecDepth 20000 in
theorem lc_slow {p : Program} {l : Launch} {e : Env} {s : State} {m : MethodId} {below : List Frame} {meth : Method} {c : Code} {w : WK} {b L cells slots : Nat} {xs : Nat → Int32} {Inv : TT → Prop} {i : Nat} {h : TT} (X : LX p s m meth c w b L cells slots xs) (hi : i + 7 ≤ L) (hS : ST_slow Inv) (hI : Inv h) (kk : ∀ h2, Inv h2 → GL p l e s m below meth c w b cells slots 1643 [(0, .ref b), (1, .ref (w.2.1 0)), (2, .ref (w.2.1 147)), (3, .int (nI i))] [] h2) : GL p l e s m below meth c w b cells slots 1036 [(0, .ref b), (1, .ref (w.2.1 0)), (2, .ref (w.2.1 147)), (3, .int (nI i))] [] h := by
  obtain ⟨r, h1, h2, e1, e2, e3⟩ := hS h hI 
  refine l_aload_n (pc := 1036) X 1 rfl dL_law_1036 rfl ?_
  refine l_call (pc := 1037) (x1 := (some (.int r), h1)) (rest := []) X mv_RL_123 (m_X7_slow e1) so_RX7 rfl (by decide) rfl rfl (Nat.le_of_ble_eq_true rfl) dL_law_1037 ?_
  show GL p l e s m below meth c w b cells slots 1040 [(0, .ref b), (1, .ref (w.2.1 0)), (2, .ref (w.2.1 147)), (3, .int (nI i))] [.int r] h1
  refine l_aload_n (pc := 1040) X 2 rfl dL_law_1040 rfl ?_
  refine l_call (pc := 1041) (x1 := (some (.int r), h2)) (rest := [.int r]) X mv_RL_126 (m_X8_slow e2) so_RX8 rfl (by decide) rfl rfl (Nat.le_of_ble_eq_true rfl) dL_law_1041 ?_
  show GL p l e s m below meth c w b cells slots 1044 [(0, .ref b), (1, .ref (w.2.1 0)), (2, .ref (w.2.1 147)), (3, .int (nI i))] [.int r, .int r] h2
  refine l_eq (pc := 1044) (tgt := 1643) X dL_law_1044 (by decide) rfl ?_
  exact kk _ e3
set_option maxRecDepth 20000 in
theorem lc_spiral {p : Program} {l : Launch} {e : Env} {s : State} {m : MethodId} {below : List Frame} {meth : Method} {c : Code} {w : WK} {b L cells slots : Nat} {xs : Nat → Int32} {Inv : TT → Prop} {i : Nat} {h : TT} (X : LX p s m meth c w b L cells slots xs) (hi : i + 7 ≤ L) (hS : ST_spiral Inv) (hI : Inv h) (kk : ∀ h2, Inv h2 → GL p l e s m below meth c w b cells slots 1643 [(0, .ref b), (1, .ref (w.2.1 0)), (2, .ref (w.2.1 147)), (3, .int (nI i))] [] h2) : GL p l e s m below meth c w b cells slots 1049 [(0, .ref b), (1, .ref (w.2.1 0)), (2, .ref (w.2.1 147)), (3, .int (nI i))] [] h := by
  obtain ⟨r, h1, h2, e1, e2, e3⟩ := hS h hI 
  refine l_aload_n (pc := 1049) X 1 rfl dL_law_1049 rfl ?_
  refine l_call (pc := 1050) (x1 := (some (.int r), h1)) (rest := []) X mv_RL_127 (m_X7_spiral e1) so_RX7 rfl (by decide) rfl rfl (Nat.le_of_ble_eq_true rfl) dL_law_1050 ?_
  show GL p l e s m below meth c w b cells slots 1053 [(0, .ref b), (1, .ref (w.2.1 0)), (2, .ref (w.2.1 147)), (3, .int (nI i))] [.int r] h1
  refine l_aload_n (pc := 1053) X 2 rfl dL_law_1053 rfl ?_
  refine l_call (pc := 1054) (x1 := (some (.int r), h2)) (rest := [.int r]) X mv_RL_130 (m_X8_spiral e2) so_RX8 rfl (by decide) rfl rfl (Nat.le_of_ble_eq_true rfl) dL_law_1054 ?_
  show GL p l e s m below meth c w b cells slots 1057 [(0, .ref b), (1, .ref (w.2.1 0)), (2, .ref (w.2.1 147)), (3, .int (nI i))] [.int r, .int r] h2
  refine l_eq (pc := 1057) (tgt := 1643) X dL_law_1057 (by decide) rfl ?_
  exact kk _ e3
set_option maxRecDepth 20000 in
theorem lc_fell {p : Program} {l : Launch} {e : Env} {s : State} {m : MethodId} {below : List Frame} {meth : Method} {c : Code} {w : WK} {b L cells slots : Nat} {xs : Nat → Int32} {Inv : TT → Prop} {i : Nat} {h : TT} (X : LX p s m meth c w b L cells slots xs) (hi : i + 7 ≤ L) (hS : ST_fell Inv) (hI : Inv h) (kk : ∀ h2, Inv h2 → GL p l e s m below meth c w b cells slots 1643 [(0, .ref b), (1, .ref (w.2.1 0)), (2, .ref (w.2.1 147)), (3, .int (nI i))] [] h2) : GL p l e s m below meth c w b cells slots 1062 [(0, .ref b), (1, .ref (w.2.1 0)), (2, .ref (w.2.1 147)), (3, .int (nI i))] [] h := by
  obtain ⟨r, h1, h2, e1, e2, e3⟩ := hS h hI (xs (nI i + 1).toNatClampNeg)
  refine l_aload_n (pc := 1062) X 1 rfl dL_law_1062 rfl ?_
  refine l_aload_n (pc := 1063) X 0 rfl dL_law_1063 rfl ?_
  refine l_iload_n (pc := 1064) X 3 rfl dL_law_1064 rfl ?_
  refine l_iconst (pc := 1065) (v := 1) X dL_law_1065 kc_1 ?_
  refine l_iadd (pc := 1066) X dL_law_1066 ?_
  refine l_sld (pc := 1067) X (in_k hi X.2.2.2.1 1 kn_1 (by decide)) dL_law_1067 ?_
  refine l_call (pc := 1068) (x1 := (some (.int r), h1)) (rest := []) X mv_RL_131 (m_X7_fell e1) so_RX7 rfl (by decide) rfl rfl (Nat.le_of_ble_eq_true rfl) dL_law_1068 ?_
  show GL p l e s m below meth c w b cells slots 1071 [(0, .ref b), (1, .ref (w.2.1 0)), (2, .ref (w.2.1 147)), (3, .int (nI i))] [.int r] h1
  refine l_aload_n (pc := 1071) X 2 rfl dL_law_1071 rfl ?_
  refine l_aload_n (pc := 1072) X 0 rfl dL_law_1072 rfl ?_
  refine l_iload_n (pc := 1073) X 3 rfl dL_law_1073 rfl ?_
  refine l_iconst (pc := 1074) (v := 1) X dL_law_1074 kc_1 ?_
  refine l_iadd (pc := 1075) X dL_law_1075 ?_
  refine l_sld (pc := 1076) X (in_k hi X.2.2.2.1 1 kn_1 (by decide)) dL_law_1076 ?_
  refine l_call (pc := 1077) (x1 := (some (.int r), h2)) (rest := [.int r]) X mv_RL_134 (m_X8_fell e2) so_RX8 rfl (by decide) rfl rfl (Nat.le_of_ble_eq_true rfl) dL_law_1077 ?_
  show GL p l e s m below meth c w b cells slots 1080 [(0, .ref b), (1, .ref (w.2.1 0)), (2, .ref (w.2.1 147)), (3, .int (nI i))] [.int r, .int r] h2
  refine l_eq (pc := 1080) (tgt := 1643) X dL_law_1080 (by decide) rfl ?_
  exact kk _ e3
set_option maxRecDepth 20000 in
theorem lc_odds {p : Program} {l : Launch} {e : Env} {s : State} {m : MethodId} {below : List Frame} {meth : Method} {c : Code} {w : WK} {b L cells slots : Nat} {xs : Nat → Int32} {Inv : TT → Prop} {i : Nat} {h : TT} (X : LX p s m meth c w b L cells slots xs) (hi : i + 7 ≤ L) (hS : ST_odds Inv) (hI : Inv h) (kk : ∀ h2, Inv h2 → GL p l e s m below meth c w b cells slots 1643 [(0, .ref b), (1, .ref (w.2.1 0)), (2, .ref (w.2.1 147)), (3, .int (nI i))] [] h2) : GL p l e s m below meth c w b cells slots 1085 [(0, .ref b), (1, .ref (w.2.1 0)), (2, .ref (w.2.1 147)), (3, .int (nI i))] [] h := by
  obtain ⟨r, h1, h2, e1, e2, e3⟩ := hS h hI 
  refine l_aload_n (pc := 1085) X 1 rfl dL_law_1085 rfl ?_
  refine l_call (pc := 1086) (x1 := (some (.int r), h1)) (rest := []) X mv_RL_135 (m_X7_odds e1) so_RX7 rfl (by decide) rfl rfl (Nat.le_of_ble_eq_true rfl) dL_law_1086 ?_
  show GL p l e s m below meth c w b cells slots 1089 [(0, .ref b), (1, .ref (w.2.1 0)), (2, .ref (w.2.1 147)), (3, .int (nI i))] [.int r] h1
  refine l_aload_n (pc := 1089) X 2 rfl dL_law_1089 rfl ?_
  refine l_call (pc := 1090) (x1 := (some (.int r), h2)) (rest := [.int r]) X mv_RL_138 (m_X8_odds e2) so_RX8 rfl (by decide) rfl rfl (Nat.le_of_ble_eq_true rfl) dL_law_1090 ?_
  show GL p l e s m below meth c w b cells slots 1093 [(0, .ref b), (1, .ref (w.2.1 0)), (2, .ref (w.2.1 147)), (3, .int (nI i))] [.int r, .int r] h2
  refine l_eq (pc := 1093) (tgt := 1643) X dL_law_1093 (by decide) rfl ?_
  exact kk _ e3
set_option maxRecDepth 20000 in
theorem lc_storm {p : Program} {l : Launch} {e : Env} {s : State} {m : MethodId} {below : List Frame} {meth : Method} {c : Code} {w : WK} {b L cells slots : Nat} {xs : Nat → Int32} {Inv : TT → Prop} {i : Nat} {h : TT} (X : LX p s m meth c w b L cells slots xs) (hi : i + 7 ≤ L) (hS : ST_storm Inv) (hI : Inv h) (kk : ∀ h2, Inv h2 → GL p l e s m below meth c w b cells slots 1643 [(0, .ref b), (1, .ref (w.2.1 0)), (2, .ref (w.2.1 147)), (3, .int (nI i))] [] h2) : GL p l e s m below meth c w b cells slots 1098 [(0, .ref b), (1, .ref (w.2.1 0)), (2, .ref (w.2.1 147)), (3, .int (nI i))] [] h := by
  obtain ⟨r, h1, h2, e1, e2, e3⟩ := hS h hI (xs (nI i + 1).toNatClampNeg) (xs (nI i + 2).toNatClampNeg) (xs (nI i + 3).toNatClampNeg) (xs (nI i + 4).toNatClampNeg)
  refine l_aload_n (pc := 1098) X 1 rfl dL_law_1098 rfl ?_
  refine l_aload_n (pc := 1099) X 0 rfl dL_law_1099 rfl ?_
  refine l_iload_n (pc := 1100) X 3 rfl dL_law_1100 rfl ?_
  refine l_iconst (pc := 1101) (v := 1) X dL_law_1101 kc_1 ?_
  refine l_iadd (pc := 1102) X dL_law_1102 ?_
  refine l_sld (pc := 1103) X (in_k hi X.2.2.2.1 1 kn_1 (by decide)) dL_law_1103 ?_
  refine l_aload_n (pc := 1104) X 0 rfl dL_law_1104 rfl ?_
  refine l_iload_n (pc := 1105) X 3 rfl dL_law_1105 rfl ?_
  refine l_iconst (pc := 1106) (v := 2) X dL_law_1106 kc_2 ?_
  refine l_iadd (pc := 1107) X dL_law_1107 ?_
  refine l_sld (pc := 1108) X (in_k hi X.2.2.2.1 2 kn_2 (by decide)) dL_law_1108 ?_
  refine l_aload_n (pc := 1109) X 0 rfl dL_law_1109 rfl ?_
  refine l_iload_n (pc := 1110) X 3 rfl dL_law_1110 rfl ?_
  refine l_iconst (pc := 1111) (v := 3) X dL_law_1111 kc_3 ?_
  refine l_iadd (pc := 1112) X dL_law_1112 ?_
  refine l_sld (pc := 1113) X (in_k hi X.2.2.2.1 3 kn_3 (by decide)) dL_law_1113 ?_
  refine l_aload_n (pc := 1114) X 0 rfl dL_law_1114 rfl ?_
  refine l_iload_n (pc := 1115) X 3 rfl dL_law_1115 rfl ?_
  refine l_iconst (pc := 1116) (v := 4) X dL_law_1116 kc_4 ?_
  refine l_iadd (pc := 1117) X dL_law_1117 ?_
  refine l_sld (pc := 1118) X (in_k hi X.2.2.2.1 4 kn_4 (by decide)) dL_law_1118 ?_
  refine l_call (pc := 1119) (x1 := (some (.int r), h1)) (rest := []) X mv_RL_139 (m_X7_storm e1) so_RX7 rfl (by decide) rfl rfl (Nat.le_of_ble_eq_true rfl) dL_law_1119 ?_
  show GL p l e s m below meth c w b cells slots 1122 [(0, .ref b), (1, .ref (w.2.1 0)), (2, .ref (w.2.1 147)), (3, .int (nI i))] [.int r] h1
  refine l_aload_n (pc := 1122) X 2 rfl dL_law_1122 rfl ?_
  refine l_aload_n (pc := 1123) X 0 rfl dL_law_1123 rfl ?_
  refine l_iload_n (pc := 1124) X 3 rfl dL_law_1124 rfl ?_
  refine l_iconst (pc := 1125) (v := 1) X dL_law_1125 kc_1 ?_
  refine l_iadd (pc := 1126) X dL_law_1126 ?_
  refine l_sld (pc := 1127) X (in_k hi X.2.2.2.1 1 kn_1 (by decide)) dL_law_1127 ?_
  refine l_aload_n (pc := 1128) X 0 rfl dL_law_1128 rfl ?_
  refine l_iload_n (pc := 1129) X 3 rfl dL_law_1129 rfl ?_
  refine l_iconst (pc := 1130) (v := 2) X dL_law_1130 kc_2 ?_
  refine l_iadd (pc := 1131) X dL_law_1131 ?_
  refine l_sld (pc := 1132) X (in_k hi X.2.2.2.1 2 kn_2 (by decide)) dL_law_1132 ?_
  refine l_aload_n (pc := 1133) X 0 rfl dL_law_1133 rfl ?_
  refine l_iload_n (pc := 1134) X 3 rfl dL_law_1134 rfl ?_
  refine l_iconst (pc := 1135) (v := 3) X dL_law_1135 kc_3 ?_
  refine l_iadd (pc := 1136) X dL_law_1136 ?_
  refine l_sld (pc := 1137) X (in_k hi X.2.2.2.1 3 kn_3 (by decide)) dL_law_1137 ?_
  refine l_aload_n (pc := 1138) X 0 rfl dL_law_1138 rfl ?_
  refine l_iload_n (pc := 1139) X 3 rfl dL_law_1139 rfl ?_
  refine l_iconst (pc := 1140) (v := 4) X dL_law_1140 kc_4 ?_
  refine l_iadd (pc := 1141) X dL_law_1141 ?_
  refine l_sld (pc := 1142) X (in_k hi X.2.2.2.1 4 kn_4 (by decide)) dL_law_1142 ?_
  refine l_call (pc := 1143) (x1 := (some (.int r), h2)) (rest := [.int r]) X mv_RL_143 (m_X8_storm e2) so_RX8 rfl (by decide) rfl rfl (Nat.le_of_ble_eq_true rfl) dL_law_1143 ?_
  show GL p l e s m below meth c w b cells slots 1146 [(0, .ref b), (1, .ref (w.2.1 0)), (2, .ref (w.2.1 147)), (3, .int (nI i))] [.int r, .int r] h2
  refine l_eq (pc := 1146) (tgt := 1643) X dL_law_1146 (by decide) rfl ?_
  exact kk _ e3
set_option maxRecDepth 20000 in
theorem lc_halls {p : Program} {l : Launch} {e : Env} {s : State} {m : MethodId} {below : List Frame} {meth : Method} {c : Code} {w : WK} {b L cells slots : Nat} {xs : Nat → Int32} {Inv : TT → Prop} {i : Nat} {h : TT} (X : LX p s m meth c w b L cells slots xs) (hi : i + 7 ≤ L) (hS : ST_halls Inv) (hI : Inv h) (kk : ∀ h2, Inv h2 → GL p l e s m below meth c w b cells slots 1643 [(0, .ref b), (1, .ref (w.2.1 0)), (2, .ref (w.2.1 147)), (3, .int (nI i))] [] h2) : GL p l e s m below meth c w b cells slots 1151 [(0, .ref b), (1, .ref (w.2.1 0)), (2, .ref (w.2.1 147)), (3, .int (nI i))] [] h := by
  obtain ⟨r, h1, h2, e1, e2, e3⟩ := hS h hI (xs (nI i + 1).toNatClampNeg) (xs (nI i + 2).toNatClampNeg) (xs (nI i + 3).toNatClampNeg)
  refine l_aload_n (pc := 1151) X 1 rfl dL_law_1151 rfl ?_
  refine l_aload_n (pc := 1152) X 0 rfl dL_law_1152 rfl ?_
  refine l_iload_n (pc := 1153) X 3 rfl dL_law_1153 rfl ?_
  refine l_iconst (pc := 1154) (v := 1) X dL_law_1154 kc_1 ?_
  refine l_iadd (pc := 1155) X dL_law_1155 ?_
  refine l_sld (pc := 1156) X (in_k hi X.2.2.2.1 1 kn_1 (by decide)) dL_law_1156 ?_
  refine l_aload_n (pc := 1157) X 0 rfl dL_law_1157 rfl ?_
  refine l_iload_n (pc := 1158) X 3 rfl dL_law_1158 rfl ?_
  refine l_iconst (pc := 1159) (v := 2) X dL_law_1159 kc_2 ?_
  refine l_iadd (pc := 1160) X dL_law_1160 ?_
  refine l_sld (pc := 1161) X (in_k hi X.2.2.2.1 2 kn_2 (by decide)) dL_law_1161 ?_
  refine l_aload_n (pc := 1162) X 0 rfl dL_law_1162 rfl ?_
  refine l_iload_n (pc := 1163) X 3 rfl dL_law_1163 rfl ?_
  refine l_iconst (pc := 1164) (v := 3) X dL_law_1164 kc_3 ?_
  refine l_iadd (pc := 1165) X dL_law_1165 ?_
  refine l_sld (pc := 1166) X (in_k hi X.2.2.2.1 3 kn_3 (by decide)) dL_law_1166 ?_
  refine l_call (pc := 1167) (x1 := (some (.int r), h1)) (rest := []) X mv_RL_144 (m_X7_halls e1) so_RX7 rfl (by decide) rfl rfl (Nat.le_of_ble_eq_true rfl) dL_law_1167 ?_
  show GL p l e s m below meth c w b cells slots 1170 [(0, .ref b), (1, .ref (w.2.1 0)), (2, .ref (w.2.1 147)), (3, .int (nI i))] [.int r] h1
  refine l_aload_n (pc := 1170) X 2 rfl dL_law_1170 rfl ?_
  refine l_aload_n (pc := 1171) X 0 rfl dL_law_1171 rfl ?_
  refine l_iload_n (pc := 1172) X 3 rfl dL_law_1172 rfl ?_
  refine l_iconst (pc := 1173) (v := 1) X dL_law_1173 kc_1 ?_
  refine l_iadd (pc := 1174) X dL_law_1174 ?_
  refine l_sld (pc := 1175) X (in_k hi X.2.2.2.1 1 kn_1 (by decide)) dL_law_1175 ?_
  refine l_aload_n (pc := 1176) X 0 rfl dL_law_1176 rfl ?_
  refine l_iload_n (pc := 1177) X 3 rfl dL_law_1177 rfl ?_
  refine l_iconst (pc := 1178) (v := 2) X dL_law_1178 kc_2 ?_
  refine l_iadd (pc := 1179) X dL_law_1179 ?_
  refine l_sld (pc := 1180) X (in_k hi X.2.2.2.1 2 kn_2 (by decide)) dL_law_1180 ?_
  refine l_aload_n (pc := 1181) X 0 rfl dL_law_1181 rfl ?_
  refine l_iload_n (pc := 1182) X 3 rfl dL_law_1182 rfl ?_
  refine l_iconst (pc := 1183) (v := 3) X dL_law_1183 kc_3 ?_
  refine l_iadd (pc := 1184) X dL_law_1184 ?_
  refine l_sld (pc := 1185) X (in_k hi X.2.2.2.1 3 kn_3 (by decide)) dL_law_1185 ?_
  refine l_call (pc := 1186) (x1 := (some (.int r), h2)) (rest := [.int r]) X mv_RL_147 (m_X8_halls e2) so_RX8 rfl (by decide) rfl rfl (Nat.le_of_ble_eq_true rfl) dL_law_1186 ?_
  show GL p l e s m below meth c w b cells slots 1189 [(0, .ref b), (1, .ref (w.2.1 0)), (2, .ref (w.2.1 147)), (3, .int (nI i))] [.int r, .int r] h2
  refine l_eq (pc := 1189) (tgt := 1643) X dL_law_1189 (by decide) rfl ?_
  exact kk _ e3
set_option maxRecDepth 20000 in
theorem lc_quarry {p : Program} {l : Launch} {e : Env} {s : State} {m : MethodId} {below : List Frame} {meth : Method} {c : Code} {w : WK} {b L cells slots : Nat} {xs : Nat → Int32} {Inv : TT → Prop} {i : Nat} {h : TT} (X : LX p s m meth c w b L cells slots xs) (hi : i + 7 ≤ L) (hS : ST_quarry Inv) (hI : Inv h) (kk : ∀ h2, Inv h2 → GL p l e s m below meth c w b cells slots 1643 [(0, .ref b), (1, .ref (w.2.1 0)), (2, .ref (w.2.1 147)), (3, .int (nI i))] [] h2) : GL p l e s m below meth c w b cells slots 1194 [(0, .ref b), (1, .ref (w.2.1 0)), (2, .ref (w.2.1 147)), (3, .int (nI i))] [] h := by
  obtain ⟨r, h1, h2, e1, e2, e3⟩ := hS h hI (xs (nI i + 1).toNatClampNeg)
  refine l_aload_n (pc := 1194) X 1 rfl dL_law_1194 rfl ?_
  refine l_aload_n (pc := 1195) X 0 rfl dL_law_1195 rfl ?_
  refine l_iload_n (pc := 1196) X 3 rfl dL_law_1196 rfl ?_
  refine l_iconst (pc := 1197) (v := 1) X dL_law_1197 kc_1 ?_
  refine l_iadd (pc := 1198) X dL_law_1198 ?_
  refine l_sld (pc := 1199) X (in_k hi X.2.2.2.1 1 kn_1 (by decide)) dL_law_1199 ?_
  refine l_call (pc := 1200) (x1 := (some (.int r), h1)) (rest := []) X mv_RL_148 (m_X7_quarry e1) so_RX7 rfl (by decide) rfl rfl (Nat.le_of_ble_eq_true rfl) dL_law_1200 ?_
  show GL p l e s m below meth c w b cells slots 1203 [(0, .ref b), (1, .ref (w.2.1 0)), (2, .ref (w.2.1 147)), (3, .int (nI i))] [.int r] h1
  refine l_aload_n (pc := 1203) X 2 rfl dL_law_1203 rfl ?_
  refine l_aload_n (pc := 1204) X 0 rfl dL_law_1204 rfl ?_
  refine l_iload_n (pc := 1205) X 3 rfl dL_law_1205 rfl ?_
  refine l_iconst (pc := 1206) (v := 1) X dL_law_1206 kc_1 ?_
  refine l_iadd (pc := 1207) X dL_law_1207 ?_
  refine l_sld (pc := 1208) X (in_k hi X.2.2.2.1 1 kn_1 (by decide)) dL_law_1208 ?_
  refine l_call (pc := 1209) (x1 := (some (.int r), h2)) (rest := [.int r]) X mv_RL_151 (m_X8_quarry e2) so_RX8 rfl (by decide) rfl rfl (Nat.le_of_ble_eq_true rfl) dL_law_1209 ?_
  show GL p l e s m below meth c w b cells slots 1212 [(0, .ref b), (1, .ref (w.2.1 0)), (2, .ref (w.2.1 147)), (3, .int (nI i))] [.int r, .int r] h2
  refine l_eq (pc := 1212) (tgt := 1643) X dL_law_1212 (by decide) rfl ?_
  exact kk _ e3
set_option maxRecDepth 20000 in
theorem lc_air {p : Program} {l : Launch} {e : Env} {s : State} {m : MethodId} {below : List Frame} {meth : Method} {c : Code} {w : WK} {b L cells slots : Nat} {xs : Nat → Int32} {Inv : TT → Prop} {i : Nat} {h : TT} (X : LX p s m meth c w b L cells slots xs) (hi : i + 7 ≤ L) (hS : ST_air Inv) (hI : Inv h) (kk : ∀ h2, Inv h2 → GL p l e s m below meth c w b cells slots 1643 [(0, .ref b), (1, .ref (w.2.1 0)), (2, .ref (w.2.1 147)), (3, .int (nI i))] [] h2) : GL p l e s m below meth c w b cells slots 1217 [(0, .ref b), (1, .ref (w.2.1 0)), (2, .ref (w.2.1 147)), (3, .int (nI i))] [] h := by
  obtain ⟨r, h1, h2, e1, e2, e3⟩ := hS h hI (xs (nI i + 1).toNatClampNeg) (xs (nI i + 2).toNatClampNeg) (xs (nI i + 3).toNatClampNeg) (xs (nI i + 4).toNatClampNeg) (xs (nI i + 5).toNatClampNeg) (xs (nI i + 6).toNatClampNeg)
  refine l_aload_n (pc := 1217) X 1 rfl dL_law_1217 rfl ?_
  refine l_aload_n (pc := 1218) X 0 rfl dL_law_1218 rfl ?_
  refine l_iload_n (pc := 1219) X 3 rfl dL_law_1219 rfl ?_
  refine l_iconst (pc := 1220) (v := 1) X dL_law_1220 kc_1 ?_
  refine l_iadd (pc := 1221) X dL_law_1221 ?_
  refine l_sld (pc := 1222) X (in_k hi X.2.2.2.1 1 kn_1 (by decide)) dL_law_1222 ?_
  refine l_aload_n (pc := 1223) X 0 rfl dL_law_1223 rfl ?_
  refine l_iload_n (pc := 1224) X 3 rfl dL_law_1224 rfl ?_
  refine l_iconst (pc := 1225) (v := 2) X dL_law_1225 kc_2 ?_
  refine l_iadd (pc := 1226) X dL_law_1226 ?_
  refine l_sld (pc := 1227) X (in_k hi X.2.2.2.1 2 kn_2 (by decide)) dL_law_1227 ?_
  refine l_aload_n (pc := 1228) X 0 rfl dL_law_1228 rfl ?_
  refine l_iload_n (pc := 1229) X 3 rfl dL_law_1229 rfl ?_
  refine l_iconst (pc := 1230) (v := 3) X dL_law_1230 kc_3 ?_
  refine l_iadd (pc := 1231) X dL_law_1231 ?_
  refine l_sld (pc := 1232) X (in_k hi X.2.2.2.1 3 kn_3 (by decide)) dL_law_1232 ?_
  refine l_aload_n (pc := 1233) X 0 rfl dL_law_1233 rfl ?_
  refine l_iload_n (pc := 1234) X 3 rfl dL_law_1234 rfl ?_
  refine l_iconst (pc := 1235) (v := 4) X dL_law_1235 kc_4 ?_
  refine l_iadd (pc := 1236) X dL_law_1236 ?_
  refine l_sld (pc := 1237) X (in_k hi X.2.2.2.1 4 kn_4 (by decide)) dL_law_1237 ?_
  refine l_aload_n (pc := 1238) X 0 rfl dL_law_1238 rfl ?_
  refine l_iload_n (pc := 1239) X 3 rfl dL_law_1239 rfl ?_
  refine l_iconst (pc := 1240) (v := 5) X dL_law_1240 kc_5 ?_
  refine l_iadd (pc := 1241) X dL_law_1241 ?_
  refine l_sld (pc := 1242) X (in_k hi X.2.2.2.1 5 kn_5 (by decide)) dL_law_1242 ?_
  refine l_aload_n (pc := 1243) X 0 rfl dL_law_1243 rfl ?_
  refine l_iload_n (pc := 1244) X 3 rfl dL_law_1244 rfl ?_
  refine l_bipush (pc := 1245) (v := 6) X dL_law_1245 kb_6 ?_
  refine l_iadd (pc := 1247) X dL_law_1247 ?_
  refine l_sld (pc := 1248) X (in_k hi X.2.2.2.1 6 kn_6 (by decide)) dL_law_1248 ?_
  refine l_call (pc := 1249) (x1 := (some (.int r), h1)) (rest := []) X mv_RL_152 (m_X7_air e1) so_RX7 rfl (by decide) rfl rfl (Nat.le_of_ble_eq_true rfl) dL_law_1249 ?_
  show GL p l e s m below meth c w b cells slots 1252 [(0, .ref b), (1, .ref (w.2.1 0)), (2, .ref (w.2.1 147)), (3, .int (nI i))] [.int r] h1
  refine l_aload_n (pc := 1252) X 2 rfl dL_law_1252 rfl ?_
  refine l_aload_n (pc := 1253) X 0 rfl dL_law_1253 rfl ?_
  refine l_iload_n (pc := 1254) X 3 rfl dL_law_1254 rfl ?_
  refine l_iconst (pc := 1255) (v := 1) X dL_law_1255 kc_1 ?_
  refine l_iadd (pc := 1256) X dL_law_1256 ?_
  refine l_sld (pc := 1257) X (in_k hi X.2.2.2.1 1 kn_1 (by decide)) dL_law_1257 ?_
  refine l_aload_n (pc := 1258) X 0 rfl dL_law_1258 rfl ?_
  refine l_iload_n (pc := 1259) X 3 rfl dL_law_1259 rfl ?_
  refine l_iconst (pc := 1260) (v := 2) X dL_law_1260 kc_2 ?_
  refine l_iadd (pc := 1261) X dL_law_1261 ?_
  refine l_sld (pc := 1262) X (in_k hi X.2.2.2.1 2 kn_2 (by decide)) dL_law_1262 ?_
  refine l_aload_n (pc := 1263) X 0 rfl dL_law_1263 rfl ?_
  refine l_iload_n (pc := 1264) X 3 rfl dL_law_1264 rfl ?_
  refine l_iconst (pc := 1265) (v := 3) X dL_law_1265 kc_3 ?_
  refine l_iadd (pc := 1266) X dL_law_1266 ?_
  refine l_sld (pc := 1267) X (in_k hi X.2.2.2.1 3 kn_3 (by decide)) dL_law_1267 ?_
  refine l_aload_n (pc := 1268) X 0 rfl dL_law_1268 rfl ?_
  refine l_iload_n (pc := 1269) X 3 rfl dL_law_1269 rfl ?_
  refine l_iconst (pc := 1270) (v := 4) X dL_law_1270 kc_4 ?_
  refine l_iadd (pc := 1271) X dL_law_1271 ?_
  refine l_sld (pc := 1272) X (in_k hi X.2.2.2.1 4 kn_4 (by decide)) dL_law_1272 ?_
  refine l_aload_n (pc := 1273) X 0 rfl dL_law_1273 rfl ?_
  refine l_iload_n (pc := 1274) X 3 rfl dL_law_1274 rfl ?_
  refine l_iconst (pc := 1275) (v := 5) X dL_law_1275 kc_5 ?_
  refine l_iadd (pc := 1276) X dL_law_1276 ?_
  refine l_sld (pc := 1277) X (in_k hi X.2.2.2.1 5 kn_5 (by decide)) dL_law_1277 ?_
  refine l_aload_n (pc := 1278) X 0 rfl dL_law_1278 rfl ?_
  refine l_iload_n (pc := 1279) X 3 rfl dL_law_1279 rfl ?_
  refine l_bipush (pc := 1280) (v := 6) X dL_law_1280 kb_6 ?_
  refine l_iadd (pc := 1282) X dL_law_1282 ?_
  refine l_sld (pc := 1283) X (in_k hi X.2.2.2.1 6 kn_6 (by decide)) dL_law_1283 ?_
  refine l_call (pc := 1284) (x1 := (some (.int r), h2)) (rest := [.int r]) X mv_RL_156 (m_X8_air e2) so_RX8 rfl (by decide) rfl rfl (Nat.le_of_ble_eq_true rfl) dL_law_1284 ?_
  show GL p l e s m below meth c w b cells slots 1287 [(0, .ref b), (1, .ref (w.2.1 0)), (2, .ref (w.2.1 147)), (3, .int (nI i))] [.int r, .int r] h2
  refine l_eq (pc := 1287) (tgt := 1643) X dL_law_1287 (by decide) rfl ?_
  exact kk _ e3
set_option maxRecDepth 20000 in
theorem lc_layer {p : Program} {l : Launch} {e : Env} {s : State} {m : MethodId} {below : List Frame} {meth : Method} {c : Code} {w : WK} {b L cells slots : Nat} {xs : Nat → Int32} {Inv : TT → Prop} {i : Nat} {h : TT} (X : LX p s m meth c w b L cells slots xs) (hi : i + 7 ≤ L) (hS : ST_layer Inv) (hI : Inv h) (kk : ∀ h2, Inv h2 → GL p l e s m below meth c w b cells slots 1643 [(0, .ref b), (1, .ref (w.2.1 0)), (2, .ref (w.2.1 147)), (3, .int (nI i))] [] h2) : GL p l e s m below meth c w b cells slots 1292 [(0, .ref b), (1, .ref (w.2.1 0)), (2, .ref (w.2.1 147)), (3, .int (nI i))] [] h := by
  obtain ⟨r, h1, h2, e1, e2, e3⟩ := hS h hI (xs (nI i + 1).toNatClampNeg) (xs (nI i + 2).toNatClampNeg) (xs (nI i + 3).toNatClampNeg) (xs (nI i + 4).toNatClampNeg) (xs (nI i + 5).toNatClampNeg) (xs (nI i + 6).toNatClampNeg)
  refine l_aload_n (pc := 1292) X 1 rfl dL_law_1292 rfl ?_
  refine l_aload_n (pc := 1293) X 0 rfl dL_law_1293 rfl ?_
  refine l_iload_n (pc := 1294) X 3 rfl dL_law_1294 rfl ?_
  refine l_iconst (pc := 1295) (v := 1) X dL_law_1295 kc_1 ?_
  refine l_iadd (pc := 1296) X dL_law_1296 ?_
  refine l_sld (pc := 1297) X (in_k hi X.2.2.2.1 1 kn_1 (by decide)) dL_law_1297 ?_
  refine l_aload_n (pc := 1298) X 0 rfl dL_law_1298 rfl ?_
  refine l_iload_n (pc := 1299) X 3 rfl dL_law_1299 rfl ?_
  refine l_iconst (pc := 1300) (v := 2) X dL_law_1300 kc_2 ?_
  refine l_iadd (pc := 1301) X dL_law_1301 ?_
  refine l_sld (pc := 1302) X (in_k hi X.2.2.2.1 2 kn_2 (by decide)) dL_law_1302 ?_
  refine l_aload_n (pc := 1303) X 0 rfl dL_law_1303 rfl ?_
  refine l_iload_n (pc := 1304) X 3 rfl dL_law_1304 rfl ?_
  refine l_iconst (pc := 1305) (v := 3) X dL_law_1305 kc_3 ?_
  refine l_iadd (pc := 1306) X dL_law_1306 ?_
  refine l_sld (pc := 1307) X (in_k hi X.2.2.2.1 3 kn_3 (by decide)) dL_law_1307 ?_
  refine l_aload_n (pc := 1308) X 0 rfl dL_law_1308 rfl ?_
  refine l_iload_n (pc := 1309) X 3 rfl dL_law_1309 rfl ?_
  refine l_iconst (pc := 1310) (v := 4) X dL_law_1310 kc_4 ?_
  refine l_iadd (pc := 1311) X dL_law_1311 ?_
  refine l_sld (pc := 1312) X (in_k hi X.2.2.2.1 4 kn_4 (by decide)) dL_law_1312 ?_
  refine l_aload_n (pc := 1313) X 0 rfl dL_law_1313 rfl ?_
  refine l_iload_n (pc := 1314) X 3 rfl dL_law_1314 rfl ?_
  refine l_iconst (pc := 1315) (v := 5) X dL_law_1315 kc_5 ?_
  refine l_iadd (pc := 1316) X dL_law_1316 ?_
  refine l_sld (pc := 1317) X (in_k hi X.2.2.2.1 5 kn_5 (by decide)) dL_law_1317 ?_
  refine l_aload_n (pc := 1318) X 0 rfl dL_law_1318 rfl ?_
  refine l_iload_n (pc := 1319) X 3 rfl dL_law_1319 rfl ?_
  refine l_bipush (pc := 1320) (v := 6) X dL_law_1320 kb_6 ?_
  refine l_iadd (pc := 1322) X dL_law_1322 ?_
  refine l_sld (pc := 1323) X (in_k hi X.2.2.2.1 6 kn_6 (by decide)) dL_law_1323 ?_
  refine l_call (pc := 1324) (x1 := (some (.int r), h1)) (rest := []) X mv_RL_157 (m_X7_layer e1) so_RX7 rfl (by decide) rfl rfl (Nat.le_of_ble_eq_true rfl) dL_law_1324 ?_
  show GL p l e s m below meth c w b cells slots 1327 [(0, .ref b), (1, .ref (w.2.1 0)), (2, .ref (w.2.1 147)), (3, .int (nI i))] [.int r] h1
  refine l_aload_n (pc := 1327) X 2 rfl dL_law_1327 rfl ?_
  refine l_aload_n (pc := 1328) X 0 rfl dL_law_1328 rfl ?_
  refine l_iload_n (pc := 1329) X 3 rfl dL_law_1329 rfl ?_
  refine l_iconst (pc := 1330) (v := 1) X dL_law_1330 kc_1 ?_
  refine l_iadd (pc := 1331) X dL_law_1331 ?_
  refine l_sld (pc := 1332) X (in_k hi X.2.2.2.1 1 kn_1 (by decide)) dL_law_1332 ?_
  refine l_aload_n (pc := 1333) X 0 rfl dL_law_1333 rfl ?_
  refine l_iload_n (pc := 1334) X 3 rfl dL_law_1334 rfl ?_
  refine l_iconst (pc := 1335) (v := 2) X dL_law_1335 kc_2 ?_
  refine l_iadd (pc := 1336) X dL_law_1336 ?_
  refine l_sld (pc := 1337) X (in_k hi X.2.2.2.1 2 kn_2 (by decide)) dL_law_1337 ?_
  refine l_aload_n (pc := 1338) X 0 rfl dL_law_1338 rfl ?_
  refine l_iload_n (pc := 1339) X 3 rfl dL_law_1339 rfl ?_
  refine l_iconst (pc := 1340) (v := 3) X dL_law_1340 kc_3 ?_
  refine l_iadd (pc := 1341) X dL_law_1341 ?_
  refine l_sld (pc := 1342) X (in_k hi X.2.2.2.1 3 kn_3 (by decide)) dL_law_1342 ?_
  refine l_aload_n (pc := 1343) X 0 rfl dL_law_1343 rfl ?_
  refine l_iload_n (pc := 1344) X 3 rfl dL_law_1344 rfl ?_
  refine l_iconst (pc := 1345) (v := 4) X dL_law_1345 kc_4 ?_
  refine l_iadd (pc := 1346) X dL_law_1346 ?_
  refine l_sld (pc := 1347) X (in_k hi X.2.2.2.1 4 kn_4 (by decide)) dL_law_1347 ?_
  refine l_aload_n (pc := 1348) X 0 rfl dL_law_1348 rfl ?_
  refine l_iload_n (pc := 1349) X 3 rfl dL_law_1349 rfl ?_
  refine l_iconst (pc := 1350) (v := 5) X dL_law_1350 kc_5 ?_
  refine l_iadd (pc := 1351) X dL_law_1351 ?_
  refine l_sld (pc := 1352) X (in_k hi X.2.2.2.1 5 kn_5 (by decide)) dL_law_1352 ?_
  refine l_aload_n (pc := 1353) X 0 rfl dL_law_1353 rfl ?_
  refine l_iload_n (pc := 1354) X 3 rfl dL_law_1354 rfl ?_
  refine l_bipush (pc := 1355) (v := 6) X dL_law_1355 kb_6 ?_
  refine l_iadd (pc := 1357) X dL_law_1357 ?_
  refine l_sld (pc := 1358) X (in_k hi X.2.2.2.1 6 kn_6 (by decide)) dL_law_1358 ?_
  refine l_call (pc := 1359) (x1 := (some (.int r), h2)) (rest := [.int r]) X mv_RL_160 (m_X8_layer e2) so_RX8 rfl (by decide) rfl rfl (Nat.le_of_ble_eq_true rfl) dL_law_1359 ?_
  show GL p l e s m below meth c w b cells slots 1362 [(0, .ref b), (1, .ref (w.2.1 0)), (2, .ref (w.2.1 147)), (3, .int (nI i))] [.int r, .int r] h2
  refine l_eq (pc := 1362) (tgt := 1643) X dL_law_1362 (by decide) rfl ?_
  exact kk _ e3
set_option maxRecDepth 20000 in
theorem lc_hole {p : Program} {l : Launch} {e : Env} {s : State} {m : MethodId} {below : List Frame} {meth : Method} {c : Code} {w : WK} {b L cells slots : Nat} {xs : Nat → Int32} {Inv : TT → Prop} {i : Nat} {h : TT} (X : LX p s m meth c w b L cells slots xs) (hi : i + 7 ≤ L) (hS : ST_hole Inv) (hI : Inv h) (kk : ∀ h2, Inv h2 → GL p l e s m below meth c w b cells slots 1643 [(0, .ref b), (1, .ref (w.2.1 0)), (2, .ref (w.2.1 147)), (3, .int (nI i))] [] h2) : GL p l e s m below meth c w b cells slots 1367 [(0, .ref b), (1, .ref (w.2.1 0)), (2, .ref (w.2.1 147)), (3, .int (nI i))] [] h := by
  obtain ⟨r, h1, h2, e1, e2, e3⟩ := hS h hI (xs (nI i + 1).toNatClampNeg) (xs (nI i + 2).toNatClampNeg) (xs (nI i + 3).toNatClampNeg)
  refine l_aload_n (pc := 1367) X 1 rfl dL_law_1367 rfl ?_
  refine l_aload_n (pc := 1368) X 0 rfl dL_law_1368 rfl ?_
  refine l_iload_n (pc := 1369) X 3 rfl dL_law_1369 rfl ?_
  refine l_iconst (pc := 1370) (v := 1) X dL_law_1370 kc_1 ?_
  refine l_iadd (pc := 1371) X dL_law_1371 ?_
  refine l_sld (pc := 1372) X (in_k hi X.2.2.2.1 1 kn_1 (by decide)) dL_law_1372 ?_
  refine l_aload_n (pc := 1373) X 0 rfl dL_law_1373 rfl ?_
  refine l_iload_n (pc := 1374) X 3 rfl dL_law_1374 rfl ?_
  refine l_iconst (pc := 1375) (v := 2) X dL_law_1375 kc_2 ?_
  refine l_iadd (pc := 1376) X dL_law_1376 ?_
  refine l_sld (pc := 1377) X (in_k hi X.2.2.2.1 2 kn_2 (by decide)) dL_law_1377 ?_
  refine l_aload_n (pc := 1378) X 0 rfl dL_law_1378 rfl ?_
  refine l_iload_n (pc := 1379) X 3 rfl dL_law_1379 rfl ?_
  refine l_iconst (pc := 1380) (v := 3) X dL_law_1380 kc_3 ?_
  refine l_iadd (pc := 1381) X dL_law_1381 ?_
  refine l_sld (pc := 1382) X (in_k hi X.2.2.2.1 3 kn_3 (by decide)) dL_law_1382 ?_
  refine l_call (pc := 1383) (x1 := (some (.int r), h1)) (rest := []) X mv_RL_161 (m_X7_hole e1) so_RX7 rfl (by decide) rfl rfl (Nat.le_of_ble_eq_true rfl) dL_law_1383 ?_
  show GL p l e s m below meth c w b cells slots 1386 [(0, .ref b), (1, .ref (w.2.1 0)), (2, .ref (w.2.1 147)), (3, .int (nI i))] [.int r] h1
  refine l_aload_n (pc := 1386) X 2 rfl dL_law_1386 rfl ?_
  refine l_aload_n (pc := 1387) X 0 rfl dL_law_1387 rfl ?_
  refine l_iload_n (pc := 1388) X 3 rfl dL_law_1388 rfl ?_
  refine l_iconst (pc := 1389) (v := 1) X dL_law_1389 kc_1 ?_
  refine l_iadd (pc := 1390) X dL_law_1390 ?_
  refine l_sld (pc := 1391) X (in_k hi X.2.2.2.1 1 kn_1 (by decide)) dL_law_1391 ?_
  refine l_aload_n (pc := 1392) X 0 rfl dL_law_1392 rfl ?_
  refine l_iload_n (pc := 1393) X 3 rfl dL_law_1393 rfl ?_
  refine l_iconst (pc := 1394) (v := 2) X dL_law_1394 kc_2 ?_
  refine l_iadd (pc := 1395) X dL_law_1395 ?_
  refine l_sld (pc := 1396) X (in_k hi X.2.2.2.1 2 kn_2 (by decide)) dL_law_1396 ?_
  refine l_aload_n (pc := 1397) X 0 rfl dL_law_1397 rfl ?_
  refine l_iload_n (pc := 1398) X 3 rfl dL_law_1398 rfl ?_
  refine l_iconst (pc := 1399) (v := 3) X dL_law_1399 kc_3 ?_
  refine l_iadd (pc := 1400) X dL_law_1400 ?_
  refine l_sld (pc := 1401) X (in_k hi X.2.2.2.1 3 kn_3 (by decide)) dL_law_1401 ?_
  refine l_call (pc := 1402) (x1 := (some (.int r), h2)) (rest := [.int r]) X mv_RL_164 (m_X8_hole e2) so_RX8 rfl (by decide) rfl rfl (Nat.le_of_ble_eq_true rfl) dL_law_1402 ?_
  show GL p l e s m below meth c w b cells slots 1405 [(0, .ref b), (1, .ref (w.2.1 0)), (2, .ref (w.2.1 147)), (3, .int (nI i))] [.int r, .int r] h2
  refine l_eq (pc := 1405) (tgt := 1643) X dL_law_1405 (by decide) rfl ?_
  exact kk _ e3
set_option maxRecDepth 20000 in
theorem lc_drips {p : Program} {l : Launch} {e : Env} {s : State} {m : MethodId} {below : List Frame} {meth : Method} {c : Code} {w : WK} {b L cells slots : Nat} {xs : Nat → Int32} {Inv : TT → Prop} {i : Nat} {h : TT} (X : LX p s m meth c w b L cells slots xs) (hi : i + 7 ≤ L) (hS : ST_drips Inv) (hI : Inv h) (kk : ∀ h2, Inv h2 → GL p l e s m below meth c w b cells slots 1643 [(0, .ref b), (1, .ref (w.2.1 0)), (2, .ref (w.2.1 147)), (3, .int (nI i))] [] h2) : GL p l e s m below meth c w b cells slots 1410 [(0, .ref b), (1, .ref (w.2.1 0)), (2, .ref (w.2.1 147)), (3, .int (nI i))] [] h := by
  obtain ⟨r, h1, h2, e1, e2, e3⟩ := hS h hI (xs (nI i + 1).toNatClampNeg) (xs (nI i + 2).toNatClampNeg) (xs (nI i + 3).toNatClampNeg)
  refine l_aload_n (pc := 1410) X 1 rfl dL_law_1410 rfl ?_
  refine l_aload_n (pc := 1411) X 0 rfl dL_law_1411 rfl ?_
  refine l_iload_n (pc := 1412) X 3 rfl dL_law_1412 rfl ?_
  refine l_iconst (pc := 1413) (v := 1) X dL_law_1413 kc_1 ?_
  refine l_iadd (pc := 1414) X dL_law_1414 ?_
  refine l_sld (pc := 1415) X (in_k hi X.2.2.2.1 1 kn_1 (by decide)) dL_law_1415 ?_
  refine l_aload_n (pc := 1416) X 0 rfl dL_law_1416 rfl ?_
  refine l_iload_n (pc := 1417) X 3 rfl dL_law_1417 rfl ?_
  refine l_iconst (pc := 1418) (v := 2) X dL_law_1418 kc_2 ?_
  refine l_iadd (pc := 1419) X dL_law_1419 ?_
  refine l_sld (pc := 1420) X (in_k hi X.2.2.2.1 2 kn_2 (by decide)) dL_law_1420 ?_
  refine l_aload_n (pc := 1421) X 0 rfl dL_law_1421 rfl ?_
  refine l_iload_n (pc := 1422) X 3 rfl dL_law_1422 rfl ?_
  refine l_iconst (pc := 1423) (v := 3) X dL_law_1423 kc_3 ?_
  refine l_iadd (pc := 1424) X dL_law_1424 ?_
  refine l_sld (pc := 1425) X (in_k hi X.2.2.2.1 3 kn_3 (by decide)) dL_law_1425 ?_
  refine l_call (pc := 1426) (x1 := (some (.int r), h1)) (rest := []) X mv_RL_165 (m_X7_drips e1) so_RX7 rfl (by decide) rfl rfl (Nat.le_of_ble_eq_true rfl) dL_law_1426 ?_
  show GL p l e s m below meth c w b cells slots 1429 [(0, .ref b), (1, .ref (w.2.1 0)), (2, .ref (w.2.1 147)), (3, .int (nI i))] [.int r] h1
  refine l_aload_n (pc := 1429) X 2 rfl dL_law_1429 rfl ?_
  refine l_aload_n (pc := 1430) X 0 rfl dL_law_1430 rfl ?_
  refine l_iload_n (pc := 1431) X 3 rfl dL_law_1431 rfl ?_
  refine l_iconst (pc := 1432) (v := 1) X dL_law_1432 kc_1 ?_
  refine l_iadd (pc := 1433) X dL_law_1433 ?_
  refine l_sld (pc := 1434) X (in_k hi X.2.2.2.1 1 kn_1 (by decide)) dL_law_1434 ?_
  refine l_aload_n (pc := 1435) X 0 rfl dL_law_1435 rfl ?_
  refine l_iload_n (pc := 1436) X 3 rfl dL_law_1436 rfl ?_
  refine l_iconst (pc := 1437) (v := 2) X dL_law_1437 kc_2 ?_
  refine l_iadd (pc := 1438) X dL_law_1438 ?_
  refine l_sld (pc := 1439) X (in_k hi X.2.2.2.1 2 kn_2 (by decide)) dL_law_1439 ?_
  refine l_aload_n (pc := 1440) X 0 rfl dL_law_1440 rfl ?_
  refine l_iload_n (pc := 1441) X 3 rfl dL_law_1441 rfl ?_
  refine l_iconst (pc := 1442) (v := 3) X dL_law_1442 kc_3 ?_
  refine l_iadd (pc := 1443) X dL_law_1443 ?_
  refine l_sld (pc := 1444) X (in_k hi X.2.2.2.1 3 kn_3 (by decide)) dL_law_1444 ?_
  refine l_call (pc := 1445) (x1 := (some (.int r), h2)) (rest := [.int r]) X mv_RL_168 (m_X8_drips e2) so_RX8 rfl (by decide) rfl rfl (Nat.le_of_ble_eq_true rfl) dL_law_1445 ?_
  show GL p l e s m below meth c w b cells slots 1448 [(0, .ref b), (1, .ref (w.2.1 0)), (2, .ref (w.2.1 147)), (3, .int (nI i))] [.int r, .int r] h2
  refine l_eq (pc := 1448) (tgt := 1643) X dL_law_1448 (by decide) rfl ?_
  exact kk _ e3
set_option maxRecDepth 20000 in
theorem lc_lasts {p : Program} {l : Launch} {e : Env} {s : State} {m : MethodId} {below : List Frame} {meth : Method} {c : Code} {w : WK} {b L cells slots : Nat} {xs : Nat → Int32} {Inv : TT → Prop} {i : Nat} {h : TT} (X : LX p s m meth c w b L cells slots xs) (hi : i + 7 ≤ L) (hS : ST_lasts Inv) (hI : Inv h) (kk : ∀ h2, Inv h2 → GL p l e s m below meth c w b cells slots 1643 [(0, .ref b), (1, .ref (w.2.1 0)), (2, .ref (w.2.1 147)), (3, .int (nI i))] [] h2) : GL p l e s m below meth c w b cells slots 1453 [(0, .ref b), (1, .ref (w.2.1 0)), (2, .ref (w.2.1 147)), (3, .int (nI i))] [] h := by
  obtain ⟨r, h1, h2, e1, e2, e3⟩ := hS h hI (xs (nI i + 1).toNatClampNeg) (xs (nI i + 2).toNatClampNeg) (xs (nI i + 3).toNatClampNeg)
  refine l_aload_n (pc := 1453) X 1 rfl dL_law_1453 rfl ?_
  refine l_aload_n (pc := 1454) X 0 rfl dL_law_1454 rfl ?_
  refine l_iload_n (pc := 1455) X 3 rfl dL_law_1455 rfl ?_
  refine l_iconst (pc := 1456) (v := 1) X dL_law_1456 kc_1 ?_
  refine l_iadd (pc := 1457) X dL_law_1457 ?_
  refine l_sld (pc := 1458) X (in_k hi X.2.2.2.1 1 kn_1 (by decide)) dL_law_1458 ?_
  refine l_aload_n (pc := 1459) X 0 rfl dL_law_1459 rfl ?_
  refine l_iload_n (pc := 1460) X 3 rfl dL_law_1460 rfl ?_
  refine l_iconst (pc := 1461) (v := 2) X dL_law_1461 kc_2 ?_
  refine l_iadd (pc := 1462) X dL_law_1462 ?_
  refine l_sld (pc := 1463) X (in_k hi X.2.2.2.1 2 kn_2 (by decide)) dL_law_1463 ?_
  refine l_aload_n (pc := 1464) X 0 rfl dL_law_1464 rfl ?_
  refine l_iload_n (pc := 1465) X 3 rfl dL_law_1465 rfl ?_
  refine l_iconst (pc := 1466) (v := 3) X dL_law_1466 kc_3 ?_
  refine l_iadd (pc := 1467) X dL_law_1467 ?_
  refine l_sld (pc := 1468) X (in_k hi X.2.2.2.1 3 kn_3 (by decide)) dL_law_1468 ?_
  refine l_call (pc := 1469) (x1 := (some (.int r), h1)) (rest := []) X mv_RL_169 (m_X7_lasts e1) so_RX7 rfl (by decide) rfl rfl (Nat.le_of_ble_eq_true rfl) dL_law_1469 ?_
  show GL p l e s m below meth c w b cells slots 1472 [(0, .ref b), (1, .ref (w.2.1 0)), (2, .ref (w.2.1 147)), (3, .int (nI i))] [.int r] h1
  refine l_aload_n (pc := 1472) X 2 rfl dL_law_1472 rfl ?_
  refine l_aload_n (pc := 1473) X 0 rfl dL_law_1473 rfl ?_
  refine l_iload_n (pc := 1474) X 3 rfl dL_law_1474 rfl ?_
  refine l_iconst (pc := 1475) (v := 1) X dL_law_1475 kc_1 ?_
  refine l_iadd (pc := 1476) X dL_law_1476 ?_
  refine l_sld (pc := 1477) X (in_k hi X.2.2.2.1 1 kn_1 (by decide)) dL_law_1477 ?_
  refine l_aload_n (pc := 1478) X 0 rfl dL_law_1478 rfl ?_
  refine l_iload_n (pc := 1479) X 3 rfl dL_law_1479 rfl ?_
  refine l_iconst (pc := 1480) (v := 2) X dL_law_1480 kc_2 ?_
  refine l_iadd (pc := 1481) X dL_law_1481 ?_
  refine l_sld (pc := 1482) X (in_k hi X.2.2.2.1 2 kn_2 (by decide)) dL_law_1482 ?_
  refine l_aload_n (pc := 1483) X 0 rfl dL_law_1483 rfl ?_
  refine l_iload_n (pc := 1484) X 3 rfl dL_law_1484 rfl ?_
  refine l_iconst (pc := 1485) (v := 3) X dL_law_1485 kc_3 ?_
  refine l_iadd (pc := 1486) X dL_law_1486 ?_
  refine l_sld (pc := 1487) X (in_k hi X.2.2.2.1 3 kn_3 (by decide)) dL_law_1487 ?_
  refine l_call (pc := 1488) (x1 := (some (.int r), h2)) (rest := [.int r]) X mv_RL_172 (m_X8_lasts e2) so_RX8 rfl (by decide) rfl rfl (Nat.le_of_ble_eq_true rfl) dL_law_1488 ?_
  show GL p l e s m below meth c w b cells slots 1491 [(0, .ref b), (1, .ref (w.2.1 0)), (2, .ref (w.2.1 147)), (3, .int (nI i))] [.int r, .int r] h2
  refine l_eq (pc := 1491) (tgt := 1643) X dL_law_1491 (by decide) rfl ?_
  exact kk _ e3
set_option maxRecDepth 20000 in
theorem lc_scrape {p : Program} {l : Launch} {e : Env} {s : State} {m : MethodId} {below : List Frame} {meth : Method} {c : Code} {w : WK} {b L cells slots : Nat} {xs : Nat → Int32} {Inv : TT → Prop} {i : Nat} {h : TT} (X : LX p s m meth c w b L cells slots xs) (hi : i + 7 ≤ L) (hS : ST_scrape Inv) (hI : Inv h) (kk : ∀ h2, Inv h2 → GL p l e s m below meth c w b cells slots 1643 [(0, .ref b), (1, .ref (w.2.1 0)), (2, .ref (w.2.1 147)), (3, .int (nI i))] [] h2) : GL p l e s m below meth c w b cells slots 1496 [(0, .ref b), (1, .ref (w.2.1 0)), (2, .ref (w.2.1 147)), (3, .int (nI i))] [] h := by
  obtain ⟨r, h1, h2, e1, e2, e3⟩ := hS h hI (xs (nI i + 1).toNatClampNeg) (xs (nI i + 2).toNatClampNeg)
  refine l_aload_n (pc := 1496) X 1 rfl dL_law_1496 rfl ?_
  refine l_aload_n (pc := 1497) X 0 rfl dL_law_1497 rfl ?_
  refine l_iload_n (pc := 1498) X 3 rfl dL_law_1498 rfl ?_
  refine l_iconst (pc := 1499) (v := 1) X dL_law_1499 kc_1 ?_
  refine l_iadd (pc := 1500) X dL_law_1500 ?_
  refine l_sld (pc := 1501) X (in_k hi X.2.2.2.1 1 kn_1 (by decide)) dL_law_1501 ?_
  refine l_aload_n (pc := 1502) X 0 rfl dL_law_1502 rfl ?_
  refine l_iload_n (pc := 1503) X 3 rfl dL_law_1503 rfl ?_
  refine l_iconst (pc := 1504) (v := 2) X dL_law_1504 kc_2 ?_
  refine l_iadd (pc := 1505) X dL_law_1505 ?_
  refine l_sld (pc := 1506) X (in_k hi X.2.2.2.1 2 kn_2 (by decide)) dL_law_1506 ?_
  refine l_call (pc := 1507) (x1 := (some (.int r), h1)) (rest := []) X mv_RL_173 (m_X7_scrape e1) so_RX7 rfl (by decide) rfl rfl (Nat.le_of_ble_eq_true rfl) dL_law_1507 ?_
  show GL p l e s m below meth c w b cells slots 1510 [(0, .ref b), (1, .ref (w.2.1 0)), (2, .ref (w.2.1 147)), (3, .int (nI i))] [.int r] h1
  refine l_aload_n (pc := 1510) X 2 rfl dL_law_1510 rfl ?_
  refine l_aload_n (pc := 1511) X 0 rfl dL_law_1511 rfl ?_
  refine l_iload_n (pc := 1512) X 3 rfl dL_law_1512 rfl ?_
  refine l_iconst (pc := 1513) (v := 1) X dL_law_1513 kc_1 ?_
  refine l_iadd (pc := 1514) X dL_law_1514 ?_
  refine l_sld (pc := 1515) X (in_k hi X.2.2.2.1 1 kn_1 (by decide)) dL_law_1515 ?_
  refine l_aload_n (pc := 1516) X 0 rfl dL_law_1516 rfl ?_
  refine l_iload_n (pc := 1517) X 3 rfl dL_law_1517 rfl ?_
  refine l_iconst (pc := 1518) (v := 2) X dL_law_1518 kc_2 ?_
  refine l_iadd (pc := 1519) X dL_law_1519 ?_
  refine l_sld (pc := 1520) X (in_k hi X.2.2.2.1 2 kn_2 (by decide)) dL_law_1520 ?_
  refine l_call (pc := 1521) (x1 := (some (.int r), h2)) (rest := [.int r]) X mv_RL_176 (m_X8_scrape e2) so_RX8 rfl (by decide) rfl rfl (Nat.le_of_ble_eq_true rfl) dL_law_1521 ?_
  show GL p l e s m below meth c w b cells slots 1524 [(0, .ref b), (1, .ref (w.2.1 0)), (2, .ref (w.2.1 147)), (3, .int (nI i))] [.int r, .int r] h2
  refine l_eq (pc := 1524) (tgt := 1643) X dL_law_1524 (by decide) rfl ?_
  exact kk _ e3
set_option maxRecDepth 20000 in
theorem lc_asked {p : Program} {l : Launch} {e : Env} {s : State} {m : MethodId} {below : List Frame} {meth : Method} {c : Code} {w : WK} {b L cells slots : Nat} {xs : Nat → Int32} {Inv : TT → Prop} {i : Nat} {h : TT} (X : LX p s m meth c w b L cells slots xs) (hi : i + 7 ≤ L) (hS : ST_asked Inv) (hI : Inv h) (kk : ∀ h2, Inv h2 → GL p l e s m below meth c w b cells slots 1643 [(0, .ref b), (1, .ref (w.2.1 0)), (2, .ref (w.2.1 147)), (3, .int (nI i))] [] h2) : GL p l e s m below meth c w b cells slots 1529 [(0, .ref b), (1, .ref (w.2.1 0)), (2, .ref (w.2.1 147)), (3, .int (nI i))] [] h := by
  obtain ⟨r, e1, e2, e3⟩ := hS h hI 
  refine l_aload_n (pc := 1529) X 1 rfl dL_law_1529 rfl ?_
  refine l_call (pc := 1530) (x1 := (some (.int r), h)) (rest := []) X mv_RL_177 (m_X7_asked e1) so_RX7 rfl (by decide) rfl rfl (Nat.le_of_ble_eq_true rfl) dL_law_1530 ?_
  show GL p l e s m below meth c w b cells slots 1533 [(0, .ref b), (1, .ref (w.2.1 0)), (2, .ref (w.2.1 147)), (3, .int (nI i))] [.int r] h
  refine l_aload_n (pc := 1533) X 2 rfl dL_law_1533 rfl ?_
  refine l_call (pc := 1534) (x1 := (some (.int r), h)) (rest := [.int r]) X mv_RL_180 (m_X8_asked e2) so_RX8 rfl (by decide) rfl rfl (Nat.le_of_ble_eq_true rfl) dL_law_1534 ?_
  show GL p l e s m below meth c w b cells slots 1537 [(0, .ref b), (1, .ref (w.2.1 0)), (2, .ref (w.2.1 147)), (3, .int (nI i))] [.int r, .int r] h
  refine l_eq (pc := 1537) (tgt := 1643) X dL_law_1537 (by decide) rfl ?_
  exact kk _ e3
set_option maxRecDepth 20000 in
theorem lc_upper {p : Program} {l : Launch} {e : Env} {s : State} {m : MethodId} {below : List Frame} {meth : Method} {c : Code} {w : WK} {b L cells slots : Nat} {xs : Nat → Int32} {Inv : TT → Prop} {i : Nat} {h : TT} (X : LX p s m meth c w b L cells slots xs) (hi : i + 7 ≤ L) (hS : ST_upper Inv) (hI : Inv h) (kk : ∀ h2, Inv h2 → GL p l e s m below meth c w b cells slots 1643 [(0, .ref b), (1, .ref (w.2.1 0)), (2, .ref (w.2.1 147)), (3, .int (nI i))] [] h2) : GL p l e s m below meth c w b cells slots 1542 [(0, .ref b), (1, .ref (w.2.1 0)), (2, .ref (w.2.1 147)), (3, .int (nI i))] [] h := by
  obtain ⟨r, e1, e2, e3⟩ := hS h hI 
  refine l_aload_n (pc := 1542) X 1 rfl dL_law_1542 rfl ?_
  refine l_call (pc := 1543) (x1 := (some (.long r), h)) (rest := []) X mv_RL_181 (m_X7_upper e1) so_RX7 rfl (by decide) rfl rfl (Nat.le_of_ble_eq_true rfl) dL_law_1543 ?_
  show GL p l e s m below meth c w b cells slots 1546 [(0, .ref b), (1, .ref (w.2.1 0)), (2, .ref (w.2.1 147)), (3, .int (nI i))] [.long r] h
  refine l_aload_n (pc := 1546) X 2 rfl dL_law_1546 rfl ?_
  refine l_call (pc := 1547) (x1 := (some (.long r), h)) (rest := [.long r]) X mv_RL_185 (m_X8_upper e2) so_RX8 rfl (by decide) rfl rfl (Nat.le_of_ble_eq_true rfl) dL_law_1547 ?_
  show GL p l e s m below meth c w b cells slots 1550 [(0, .ref b), (1, .ref (w.2.1 0)), (2, .ref (w.2.1 147)), (3, .int (nI i))] [.long r, .long r] h
  refine l_lcmp (pc := 1550) X dL_law_1550 ?_
  refine l_if0 (pc := 1551) (tgt := 1643) X dL_law_1551 (by decide) lg_self ?_
  exact kk _ e3
set_option maxRecDepth 20000 in
theorem lc_lower {p : Program} {l : Launch} {e : Env} {s : State} {m : MethodId} {below : List Frame} {meth : Method} {c : Code} {w : WK} {b L cells slots : Nat} {xs : Nat → Int32} {Inv : TT → Prop} {i : Nat} {h : TT} (X : LX p s m meth c w b L cells slots xs) (hi : i + 7 ≤ L) (hS : ST_lower Inv) (hI : Inv h) (kk : ∀ h2, Inv h2 → GL p l e s m below meth c w b cells slots 1643 [(0, .ref b), (1, .ref (w.2.1 0)), (2, .ref (w.2.1 147)), (3, .int (nI i))] [] h2) : GL p l e s m below meth c w b cells slots 1556 [(0, .ref b), (1, .ref (w.2.1 0)), (2, .ref (w.2.1 147)), (3, .int (nI i))] [] h := by
  obtain ⟨r, e1, e2, e3⟩ := hS h hI 
  refine l_aload_n (pc := 1556) X 1 rfl dL_law_1556 rfl ?_
  refine l_call (pc := 1557) (x1 := (some (.long r), h)) (rest := []) X mv_RL_186 (m_X7_lower e1) so_RX7 rfl (by decide) rfl rfl (Nat.le_of_ble_eq_true rfl) dL_law_1557 ?_
  show GL p l e s m below meth c w b cells slots 1560 [(0, .ref b), (1, .ref (w.2.1 0)), (2, .ref (w.2.1 147)), (3, .int (nI i))] [.long r] h
  refine l_aload_n (pc := 1560) X 2 rfl dL_law_1560 rfl ?_
  refine l_call (pc := 1561) (x1 := (some (.long r), h)) (rest := [.long r]) X mv_RL_189 (m_X8_lower e2) so_RX8 rfl (by decide) rfl rfl (Nat.le_of_ble_eq_true rfl) dL_law_1561 ?_
  show GL p l e s m below meth c w b cells slots 1564 [(0, .ref b), (1, .ref (w.2.1 0)), (2, .ref (w.2.1 147)), (3, .int (nI i))] [.long r, .long r] h
  refine l_lcmp (pc := 1564) X dL_law_1564 ?_
  refine l_if0 (pc := 1565) (tgt := 1643) X dL_law_1565 (by decide) lg_self ?_
  exact kk _ e3
set_option maxRecDepth 20000 in
theorem lc_count {p : Program} {l : Launch} {e : Env} {s : State} {m : MethodId} {below : List Frame} {meth : Method} {c : Code} {w : WK} {b L cells slots : Nat} {xs : Nat → Int32} {Inv : TT → Prop} {i : Nat} {h : TT} (X : LX p s m meth c w b L cells slots xs) (hi : i + 7 ≤ L) (hS : ST_count Inv) (hI : Inv h) (kk : ∀ h2, Inv h2 → GL p l e s m below meth c w b cells slots 1643 [(0, .ref b), (1, .ref (w.2.1 0)), (2, .ref (w.2.1 147)), (3, .int (nI i))] [] h2) : GL p l e s m below meth c w b cells slots 1570 [(0, .ref b), (1, .ref (w.2.1 0)), (2, .ref (w.2.1 147)), (3, .int (nI i))] [] h := by
  obtain ⟨r, h2, e1, e2, e3⟩ := hS h hI (xs (nI i + 1).toNatClampNeg)
  refine l_aload_n (pc := 1570) X 1 rfl dL_law_1570 rfl ?_
  refine l_aload_n (pc := 1571) X 0 rfl dL_law_1571 rfl ?_
  refine l_iload_n (pc := 1572) X 3 rfl dL_law_1572 rfl ?_
  refine l_iconst (pc := 1573) (v := 1) X dL_law_1573 kc_1 ?_
  refine l_iadd (pc := 1574) X dL_law_1574 ?_
  refine l_sld (pc := 1575) X (in_k hi X.2.2.2.1 1 kn_1 (by decide)) dL_law_1575 ?_
  refine l_call (pc := 1576) (x1 := (some (.int r), h)) (rest := []) X mv_RL_190 (m_X7_count e1) so_RX7 rfl (by decide) rfl rfl (Nat.le_of_ble_eq_true rfl) dL_law_1576 ?_
  show GL p l e s m below meth c w b cells slots 1579 [(0, .ref b), (1, .ref (w.2.1 0)), (2, .ref (w.2.1 147)), (3, .int (nI i))] [.int r] h
  refine l_aload_n (pc := 1579) X 2 rfl dL_law_1579 rfl ?_
  refine l_aload_n (pc := 1580) X 0 rfl dL_law_1580 rfl ?_
  refine l_iload_n (pc := 1581) X 3 rfl dL_law_1581 rfl ?_
  refine l_iconst (pc := 1582) (v := 1) X dL_law_1582 kc_1 ?_
  refine l_iadd (pc := 1583) X dL_law_1583 ?_
  refine l_sld (pc := 1584) X (in_k hi X.2.2.2.1 1 kn_1 (by decide)) dL_law_1584 ?_
  refine l_call (pc := 1585) (x1 := (some (.int r), h2)) (rest := [.int r]) X mv_RL_193 (m_X8_count e2) so_RX8 rfl (by decide) rfl rfl (Nat.le_of_ble_eq_true rfl) dL_law_1585 ?_
  show GL p l e s m below meth c w b cells slots 1588 [(0, .ref b), (1, .ref (w.2.1 0)), (2, .ref (w.2.1 147)), (3, .int (nI i))] [.int r, .int r] h2
  refine l_eq (pc := 1588) (tgt := 1643) X dL_law_1588 (by decide) rfl ?_
  exact kk _ e3
set_option maxRecDepth 20000 in
theorem lc_finding {p : Program} {l : Launch} {e : Env} {s : State} {m : MethodId} {below : List Frame} {meth : Method} {c : Code} {w : WK} {b L cells slots : Nat} {xs : Nat → Int32} {Inv : TT → Prop} {i : Nat} {h : TT} (X : LX p s m meth c w b L cells slots xs) (hi : i + 7 ≤ L) (hS : ST_finding Inv) (hI : Inv h) (kk : ∀ h2, Inv h2 → GL p l e s m below meth c w b cells slots 1643 [(0, .ref b), (1, .ref (w.2.1 0)), (2, .ref (w.2.1 147)), (3, .int (nI i))] [] h2) : GL p l e s m below meth c w b cells slots 1593 [(0, .ref b), (1, .ref (w.2.1 0)), (2, .ref (w.2.1 147)), (3, .int (nI i))] [] h := by
  obtain ⟨r, e1, e2, e3⟩ := hS h hI 
  refine l_aload_n (pc := 1593) X 1 rfl dL_law_1593 rfl ?_
  refine l_call (pc := 1594) (x1 := (some (.int r), h)) (rest := []) X mv_RL_194 (m_X7_finding e1) so_RX7 rfl (by decide) rfl rfl (Nat.le_of_ble_eq_true rfl) dL_law_1594 ?_
  show GL p l e s m below meth c w b cells slots 1597 [(0, .ref b), (1, .ref (w.2.1 0)), (2, .ref (w.2.1 147)), (3, .int (nI i))] [.int r] h
  refine l_aload_n (pc := 1597) X 2 rfl dL_law_1597 rfl ?_
  refine l_call (pc := 1598) (x1 := (some (.int r), h)) (rest := [.int r]) X mv_RL_197 (m_X8_finding e2) so_RX8 rfl (by decide) rfl rfl (Nat.le_of_ble_eq_true rfl) dL_law_1598 ?_
  show GL p l e s m below meth c w b cells slots 1601 [(0, .ref b), (1, .ref (w.2.1 0)), (2, .ref (w.2.1 147)), (3, .int (nI i))] [.int r, .int r] h
  refine l_eq (pc := 1601) (tgt := 1643) X dL_law_1601 (by decide) rfl ?_
  exact kk _ e3
set_option maxRecDepth 20000 in
theorem lc_findings {p : Program} {l : Launch} {e : Env} {s : State} {m : MethodId} {below : List Frame} {meth : Method} {c : Code} {w : WK} {b L cells slots : Nat} {xs : Nat → Int32} {Inv : TT → Prop} {i : Nat} {h : TT} (X : LX p s m meth c w b L cells slots xs) (hi : i + 7 ≤ L) (hS : ST_findings Inv) (hI : Inv h) (kk : ∀ h2, Inv h2 → GL p l e s m below meth c w b cells slots 1643 [(0, .ref b), (1, .ref (w.2.1 0)), (2, .ref (w.2.1 147)), (3, .int (nI i))] [] h2) : GL p l e s m below meth c w b cells slots 1606 [(0, .ref b), (1, .ref (w.2.1 0)), (2, .ref (w.2.1 147)), (3, .int (nI i))] [] h := by
  obtain ⟨r, e1, e2, e3⟩ := hS h hI (xs (nI i + 1).toNatClampNeg)
  refine l_aload_n (pc := 1606) X 1 rfl dL_law_1606 rfl ?_
  refine l_aload_n (pc := 1607) X 0 rfl dL_law_1607 rfl ?_
  refine l_iload_n (pc := 1608) X 3 rfl dL_law_1608 rfl ?_
  refine l_iconst (pc := 1609) (v := 1) X dL_law_1609 kc_1 ?_
  refine l_iadd (pc := 1610) X dL_law_1610 ?_
  refine l_sld (pc := 1611) X (in_k hi X.2.2.2.1 1 kn_1 (by decide)) dL_law_1611 ?_
  refine l_call (pc := 1612) (x1 := (some (.int r), h)) (rest := []) X mv_RL_198 (m_X7_findings e1) so_RX7 rfl (by decide) rfl rfl (Nat.le_of_ble_eq_true rfl) dL_law_1612 ?_
  show GL p l e s m below meth c w b cells slots 1615 [(0, .ref b), (1, .ref (w.2.1 0)), (2, .ref (w.2.1 147)), (3, .int (nI i))] [.int r] h
  refine l_aload_n (pc := 1615) X 2 rfl dL_law_1615 rfl ?_
  refine l_aload_n (pc := 1616) X 0 rfl dL_law_1616 rfl ?_
  refine l_iload_n (pc := 1617) X 3 rfl dL_law_1617 rfl ?_
  refine l_iconst (pc := 1618) (v := 1) X dL_law_1618 kc_1 ?_
  refine l_iadd (pc := 1619) X dL_law_1619 ?_
  refine l_sld (pc := 1620) X (in_k hi X.2.2.2.1 1 kn_1 (by decide)) dL_law_1620 ?_
  refine l_call (pc := 1621) (x1 := (some (.int r), h)) (rest := [.int r]) X mv_RL_201 (m_X8_findings e2) so_RX8 rfl (by decide) rfl rfl (Nat.le_of_ble_eq_true rfl) dL_law_1621 ?_
  show GL p l e s m below meth c w b cells slots 1624 [(0, .ref b), (1, .ref (w.2.1 0)), (2, .ref (w.2.1 147)), (3, .int (nI i))] [.int r, .int r] h
  refine l_eq (pc := 1624) (tgt := 1643) X dL_law_1624 (by decide) rfl ?_
  exact kk _ e3
set_option maxRecDepth 20000 in
theorem lc_digest {p : Program} {l : Launch} {e : Env} {s : State} {m : MethodId} {below : List Frame} {meth : Method} {c : Code} {w : WK} {b L cells slots : Nat} {xs : Nat → Int32} {Inv : TT → Prop} {i : Nat} {h : TT} (X : LX p s m meth c w b L cells slots xs) (hi : i + 7 ≤ L) (hS : ST_digest Inv) (hI : Inv h) (kk : ∀ h2, Inv h2 → GL p l e s m below meth c w b cells slots 1643 [(0, .ref b), (1, .ref (w.2.1 0)), (2, .ref (w.2.1 147)), (3, .int (nI i))] [] h2) : GL p l e s m below meth c w b cells slots 1629 [(0, .ref b), (1, .ref (w.2.1 0)), (2, .ref (w.2.1 147)), (3, .int (nI i))] [] h := by
  obtain ⟨r, h2, e1, e2, e3⟩ := hS h hI 
  refine l_aload_n (pc := 1629) X 1 rfl dL_law_1629 rfl ?_
  refine l_call (pc := 1630) (x1 := (some (.long r), h)) (rest := []) X mv_RL_202 (m_X7_digest e1) so_RX7 rfl (by decide) rfl rfl (Nat.le_of_ble_eq_true rfl) dL_law_1630 ?_
  show GL p l e s m below meth c w b cells slots 1633 [(0, .ref b), (1, .ref (w.2.1 0)), (2, .ref (w.2.1 147)), (3, .int (nI i))] [.long r] h
  refine l_aload_n (pc := 1633) X 2 rfl dL_law_1633 rfl ?_
  refine l_call (pc := 1634) (x1 := (some (.long r), h2)) (rest := [.long r]) X mv_RL_205 (m_X8_digest e2) so_RX8 rfl (by decide) rfl rfl (Nat.le_of_ble_eq_true rfl) dL_law_1634 ?_
  show GL p l e s m below meth c w b cells slots 1637 [(0, .ref b), (1, .ref (w.2.1 0)), (2, .ref (w.2.1 147)), (3, .int (nI i))] [.long r, .long r] h2
  refine l_lcmp (pc := 1637) X dL_law_1637 ?_
  refine l_if0 (pc := 1638) (tgt := 1643) X dL_law_1638 (by decide) lg_self ?_
  exact kk _ e3
theorem tab_0_45 {j : Int} (h1 : 0 ≤ j) (h2 : j ≤ 45) : j = 0 ∨ j = 1 ∨ j = 2 ∨ j = 3 ∨ j = 4 ∨ j = 5 ∨ j = 6 ∨ j = 7 ∨ j = 8 ∨ j = 9 ∨ j = 10 ∨ j = 11 ∨ j = 12 ∨ j = 13 ∨ j = 14 ∨ j = 15 ∨ j = 16 ∨ j = 17 ∨ j = 18 ∨ j = 19 ∨ j = 20 ∨ j = 21 ∨ j = 22 ∨ j = 23 ∨ j = 24 ∨ j = 25 ∨ j = 26 ∨ j = 27 ∨ j = 28 ∨ j = 29 ∨ j = 30 ∨ j = 31 ∨ j = 32 ∨ j = 33 ∨ j = 34 ∨ j = 35 ∨ j = 36 ∨ j = 37 ∨ j = 38 ∨ j = 39 ∨ j = 40 ∨ j = 41 ∨ j = 42 ∨ j = 43 ∨ j = 44 ∨ j = 45 := by omega
set_option maxRecDepth 20000 in
theorem law_loop {p : Program} {l : Launch} {e : Env} {s : State} {m : MethodId} {below : List Frame} {meth : Method} {c : Code} {w : WK} {b L cells slots : Nat} {xs : Nat → Int32} {Inv : TT → Prop} (X : LX p s m meth c w b L cells slots xs) (HS : STEPS Inv) : ∀ (n i : Nat) (h : TT), i ≤ L + 7 → L + 8 ≤ i + n → Inv h → GL p l e s m below meth c w b cells slots 18 [(0, .ref b), (1, .ref (w.2.1 0)), (2, .ref (w.2.1 147)), (3, .int (nI i))] [] h := by
  obtain ⟨h_row, h_lay, h_at, h_tear, h_copy, h_mean, h_text, h_put, h_fault, h_snow, h_plan, h_about, h_tells, h_course, h_house, h_go, h_block, h_pull, h_mark, h_door, h_keep, h_on, h_slumped, h_falls, h_pace, h_lean, h_slow, h_spiral, h_fell, h_odds, h_storm, h_halls, h_quarry, h_air, h_layer, h_hole, h_drips, h_lasts, h_scrape, h_asked, h_upper, h_lower, h_count, h_finding, h_findings, h_digest⟩ := HS
  have hL := X.2.2.2.1
  intro n
  induction n with
  | zero =>
    intro i h h1 h2
    exact absurd h2 (by omega)
  | succ n ih =>
    intro i h h1 h2 hI
    refine l_iload_n (pc := 18) X 3 rfl dL_law_18 rfl ?_
    refine l_aload_n (pc := 19) X 0 rfl dL_law_19 rfl ?_
    refine l_slen (pc := 20) X dL_law_20 ?_
    refine l_bipush (pc := 21) (v := 7) X dL_law_21 kb_7 ?_
    refine l_isub (pc := 23) X dL_law_23 ?_
    have e7 : (nI L - 7 : Int32).toInt = (L : Int) - 7 := pk_sub_toInt (a := L) (b := 7) (by omega) (by omega)
    have ei : (nI i).toInt = (i : Int) := nI_toInt (by omega)
    refine l_gt (pc := 24) (tgt := 1649) X dL_law_24 (by decide) (fun hc => ?_) (fun hc => ?_)
    · refine l_iconst (pc := 1649) (v := 1) X dL_law_1649 kc_1 ?_
      exact l_ret X dL_law_1650
    · have hi : i + 7 ≤ L := by
        have h9 : ¬ (nI L - 7 : Int32).toInt < (nI i).toInt := fun q => hc (Int32.lt_iff_toInt_lt.mpr q)
        rw [e7, ei] at h9
        omega
      have kk : ∀ h2, Inv h2 → GL p l e s m below meth c w b cells slots 1643 [(0, .ref b), (1, .ref (w.2.1 0)), (2, .ref (w.2.1 147)), (3, .int (nI i))] [] h2 := fun h2 hI2 => by
        refine l_iinc (pc := 1643) X 3 rfl dL_law_1643 (ki_7 _) (by decide) (lv' := [(3, .int (nI i + 7)), (0, .ref b), (1, .ref (w.2.1 0)), (2, .ref (w.2.1 147))]) rfl ?_
        refine l_goto (pc := 1646) (tgt := 18) X dL_law_1646 (by decide) ?_
        refine l_lv (lv' := [(0, .ref b), (1, .ref (w.2.1 0)), (2, .ref (w.2.1 147)), (3, .int (nI i + 7))]) [1, 2, 3, 0] rfl ?_
        have e : nI i + 7 = nI (i + 7) := nI_add i 7
        rw [e]
        exact ih (i + 7) h2 (by omega) (by omega) hI2
      refine l_aload_n (pc := 27) X 0 rfl dL_law_27 rfl ?_
      refine l_iload_n (pc := 28) X 3 rfl dL_law_28 rfl ?_
      refine l_sld (pc := 29) X (vp_in_nI (by omega) (by omega)) dL_law_29 ?_
      refine l_bipush (pc := 30) (v := 63) X dL_law_30 kb_63 ?_
      refine l_iand (pc := 32) X dL_law_32 ?_
      generalize xs (nI i).toNatClampNeg &&& 63 = v
      by_cases e0 : v = 0
      · exact l_tabIn (pc := 33) (tgt := 232) X dL_law_33 e0 (by decide) (by decide) rfl (by decide) (lc_row X hi h_row hI kk)
      by_cases e1 : v = 1
      · exact l_tabIn (pc := 33) (tgt := 265) X dL_law_33 e1 (by decide) (by decide) rfl (by decide) (lc_lay X hi h_lay hI kk)
      by_cases e2 : v = 2
      · exact l_tabIn (pc := 33) (tgt := 308) X dL_law_33 e2 (by decide) (by decide) rfl (by decide) (lc_at X hi h_at hI kk)
      by_cases e3 : v = 3
      · exact l_tabIn (pc := 33) (tgt := 341) X dL_law_33 e3 (by decide) (by decide) rfl (by decide) (lc_tear X hi h_tear hI kk)
      by_cases e4 : v = 4
      · exact l_tabIn (pc := 33) (tgt := 364) X dL_law_33 e4 (by decide) (by decide) rfl (by decide) (lc_copy X hi h_copy hI kk)
      by_cases e5 : v = 5
      · exact l_tabIn (pc := 33) (tgt := 427) X dL_law_33 e5 (by decide) (by decide) rfl (by decide) (lc_mean X hi h_mean hI kk)
      by_cases e6 : v = 6
      · exact l_tabIn (pc := 33) (tgt := 450) X dL_law_33 e6 (by decide) (by decide) rfl (by decide) (lc_text X hi h_text hI kk)
      by_cases e7 : v = 7
      · exact l_tabIn (pc := 33) (tgt := 483) X dL_law_33 e7 (by decide) (by decide) rfl (by decide) (lc_put X hi h_put hI kk)
      by_cases e8 : v = 8
      · exact l_tabIn (pc := 33) (tgt := 526) X dL_law_33 e8 (by decide) (by decide) rfl (by decide) (lc_fault X hi h_fault hI kk)
      by_cases e9 : v = 9
      · exact l_tabIn (pc := 33) (tgt := 575) X dL_law_33 e9 (by decide) (by decide) rfl (by decide) (lc_snow X hi h_snow hI kk)
      by_cases e10 : v = 10
      · exact l_tabIn (pc := 33) (tgt := 608) X dL_law_33 e10 (by decide) (by decide) rfl (by decide) (lc_plan X hi h_plan hI kk)
      by_cases e11 : v = 11
      · exact l_tabIn (pc := 33) (tgt := 641) X dL_law_33 e11 (by decide) (by decide) rfl (by decide) (lc_about X hi h_about hI kk)
      by_cases e12 : v = 12
      · exact l_tabIn (pc := 33) (tgt := 674) X dL_law_33 e12 (by decide) (by decide) rfl (by decide) (lc_tells X hi h_tells hI kk)
      by_cases e13 : v = 13
      · exact l_tabIn (pc := 33) (tgt := 707) X dL_law_33 e13 (by decide) (by decide) rfl (by decide) (lc_course X hi h_course hI kk)
      by_cases e14 : v = 14
      · exact l_tabIn (pc := 33) (tgt := 740) X dL_law_33 e14 (by decide) (by decide) rfl (by decide) (lc_house X hi h_house hI kk)
      by_cases e15 : v = 15
      · exact l_tabIn (pc := 33) (tgt := 783) X dL_law_33 e15 (by decide) (by decide) rfl (by decide) (lc_go X hi h_go hI kk)
      by_cases e16 : v = 16
      · exact l_tabIn (pc := 33) (tgt := 806) X dL_law_33 e16 (by decide) (by decide) rfl (by decide) (lc_block X hi h_block hI kk)
      by_cases e17 : v = 17
      · exact l_tabIn (pc := 33) (tgt := 839) X dL_law_33 e17 (by decide) (by decide) rfl (by decide) (lc_pull X hi h_pull hI kk)
      by_cases e18 : v = 18
      · exact l_tabIn (pc := 33) (tgt := 862) X dL_law_33 e18 (by decide) (by decide) rfl (by decide) (lc_mark X hi h_mark hI kk)
      by_cases e19 : v = 19
      · exact l_tabIn (pc := 33) (tgt := 895) X dL_law_33 e19 (by decide) (by decide) rfl (by decide) (lc_door X hi h_door hI kk)
      by_cases e20 : v = 20
      · exact l_tabIn (pc := 33) (tgt := 918) X dL_law_33 e20 (by decide) (by decide) rfl (by decide) (lc_keep X hi h_keep hI kk)
      by_cases e21 : v = 21
      · exact l_tabIn (pc := 33) (tgt := 941) X dL_law_33 e21 (by decide) (by decide) rfl (by decide) (lc_on X hi h_on hI kk)
      by_cases e22 : v = 22
      · exact l_tabIn (pc := 33) (tgt := 964) X dL_law_33 e22 (by decide) (by decide) rfl (by decide) (lc_slumped X hi h_slumped hI kk)
      by_cases e23 : v = 23
      · exact l_tabIn (pc := 33) (tgt := 977) X dL_law_33 e23 (by decide) (by decide) rfl (by decide) (lc_falls X hi h_falls hI kk)
      by_cases e24 : v = 24
      · exact l_tabIn (pc := 33) (tgt := 990) X dL_law_33 e24 (by decide) (by decide) rfl (by decide) (lc_pace X hi h_pace hI kk)
      by_cases e25 : v = 25
      · exact l_tabIn (pc := 33) (tgt := 1013) X dL_law_33 e25 (by decide) (by decide) rfl (by decide) (lc_lean X hi h_lean hI kk)
      by_cases e26 : v = 26
      · exact l_tabIn (pc := 33) (tgt := 1036) X dL_law_33 e26 (by decide) (by decide) rfl (by decide) (lc_slow X hi h_slow hI kk)
      by_cases e27 : v = 27
      · exact l_tabIn (pc := 33) (tgt := 1049) X dL_law_33 e27 (by decide) (by decide) rfl (by decide) (lc_spiral X hi h_spiral hI kk)
      by_cases e28 : v = 28
      · exact l_tabIn (pc := 33) (tgt := 1062) X dL_law_33 e28 (by decide) (by decide) rfl (by decide) (lc_fell X hi h_fell hI kk)
      by_cases e29 : v = 29
      · exact l_tabIn (pc := 33) (tgt := 1085) X dL_law_33 e29 (by decide) (by decide) rfl (by decide) (lc_odds X hi h_odds hI kk)
      by_cases e30 : v = 30
      · exact l_tabIn (pc := 33) (tgt := 1098) X dL_law_33 e30 (by decide) (by decide) rfl (by decide) (lc_storm X hi h_storm hI kk)
      by_cases e31 : v = 31
      · exact l_tabIn (pc := 33) (tgt := 1151) X dL_law_33 e31 (by decide) (by decide) rfl (by decide) (lc_halls X hi h_halls hI kk)
      by_cases e32 : v = 32
      · exact l_tabIn (pc := 33) (tgt := 1194) X dL_law_33 e32 (by decide) (by decide) rfl (by decide) (lc_quarry X hi h_quarry hI kk)
      by_cases e33 : v = 33
      · exact l_tabIn (pc := 33) (tgt := 1217) X dL_law_33 e33 (by decide) (by decide) rfl (by decide) (lc_air X hi h_air hI kk)
      by_cases e34 : v = 34
      · exact l_tabIn (pc := 33) (tgt := 1292) X dL_law_33 e34 (by decide) (by decide) rfl (by decide) (lc_layer X hi h_layer hI kk)
      by_cases e35 : v = 35
      · exact l_tabIn (pc := 33) (tgt := 1367) X dL_law_33 e35 (by decide) (by decide) rfl (by decide) (lc_hole X hi h_hole hI kk)
      by_cases e36 : v = 36
      · exact l_tabIn (pc := 33) (tgt := 1410) X dL_law_33 e36 (by decide) (by decide) rfl (by decide) (lc_drips X hi h_drips hI kk)
      by_cases e37 : v = 37
      · exact l_tabIn (pc := 33) (tgt := 1453) X dL_law_33 e37 (by decide) (by decide) rfl (by decide) (lc_lasts X hi h_lasts hI kk)
      by_cases e38 : v = 38
      · exact l_tabIn (pc := 33) (tgt := 1496) X dL_law_33 e38 (by decide) (by decide) rfl (by decide) (lc_scrape X hi h_scrape hI kk)
      by_cases e39 : v = 39
      · exact l_tabIn (pc := 33) (tgt := 1529) X dL_law_33 e39 (by decide) (by decide) rfl (by decide) (lc_asked X hi h_asked hI kk)
      by_cases e40 : v = 40
      · exact l_tabIn (pc := 33) (tgt := 1542) X dL_law_33 e40 (by decide) (by decide) rfl (by decide) (lc_upper X hi h_upper hI kk)
      by_cases e41 : v = 41
      · exact l_tabIn (pc := 33) (tgt := 1556) X dL_law_33 e41 (by decide) (by decide) rfl (by decide) (lc_lower X hi h_lower hI kk)
      by_cases e42 : v = 42
      · exact l_tabIn (pc := 33) (tgt := 1570) X dL_law_33 e42 (by decide) (by decide) rfl (by decide) (lc_count X hi h_count hI kk)
      by_cases e43 : v = 43
      · exact l_tabIn (pc := 33) (tgt := 1593) X dL_law_33 e43 (by decide) (by decide) rfl (by decide) (lc_finding X hi h_finding hI kk)
      by_cases e44 : v = 44
      · exact l_tabIn (pc := 33) (tgt := 1606) X dL_law_33 e44 (by decide) (by decide) rfl (by decide) (lc_findings X hi h_findings hI kk)
      by_cases e45 : v = 45
      · exact l_tabIn (pc := 33) (tgt := 1629) X dL_law_33 e45 (by decide) (by decide) rfl (by decide) (lc_digest X hi h_digest hI kk)
      refine l_tabOut (pc := 33) (tgt := 1643) X dL_law_33 (tab_out (by decide) (by decide) (fun j h1 h2 => ?_)) (by decide) (kk h hI)
      rcases tab_0_45 h1 h2 with e | e | e | e | e | e | e | e | e | e | e | e | e | e | e | e | e | e | e | e | e | e | e | e | e | e | e | e | e | e | e | e | e | e | e | e | e | e | e | e | e | e | e | e | e | e <;> subst e <;> assumption
