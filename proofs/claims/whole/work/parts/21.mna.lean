def va_AOA (ty : FieldType) (U : State) : Prop := (Cond.arrayOver (.array ty)).before #[] U = true
theorem va_AOA.of {ty : FieldType} {A : Array Value} {U : State} (h : (Cond.arrayOver (.array ty)).before A U = true) : va_AOA ty U := h
theorem va_AOA.use {ty : FieldType} {A : Array Value} {U : State} (h : va_AOA ty U) : (Cond.arrayOver (.array ty)).before A U = true := h
theorem va_AOA.moved {ty : FieldType} {u U : State} (hvm : u.vm.Alike U.vm) (h : va_AOA ty u) : va_AOA ty U := by
  have q : (Cond.arrayOver (.array ty)).before #[] (u.setVm U.vm) = true := (Cond.arrayOver_setVmC hvm (.array ty)).trans h
  exact q
/-! new T[n][m]: the step itself, out of the instruction's meaning (own rows: mz_) -/
/-- what 'arrayOver' says of an array of arrays -/
theorem mz_over {ty : FieldType} {A : Array Value} {S : State} (h : (Cond.arrayOver (.array ty)).before A S = true) : ∃ (cy cA : ClassId) (kA : Class), S.vm.findClass (FieldType.array ty).toString = some cy ∧ S.vm.findClass ("[" ++ (FieldType.array ty).toString) = some cA ∧ S.vm.classes[cA]? = some kA ∧ kA.kind = .array cy (.array ty) := by
  simp only [Cond.before, Cond.holds, Cond.value, beq_iff_eq, Option.bind_eq_some_iff, Option.map_eq_some_iff] at h
  obtain ⟨cy, hy, cA, hi, kA, hk, hb⟩ := h
  have hp := (Array.findIdx?_eq_some_iff_getElem.mp hi)
  obtain ⟨hlt, hp, -⟩ := hp
  rw [(Array.getElem?_eq_some_iff.mp hk).2] at hp
  cases hkind : kA.kind with
  | array z w =>
    rw [hkind] at hb hp
    simp only [Bool.and_eq_true, decide_eq_true_eq, beq_iff_eq] at hb hp
    refine ⟨cy, cA, kA, hy, hb.2, hk, ?_⟩
    rw [hkind, hp, hb.1]
  | _ => rw [hkind] at hb; simp at hb
/-- a row as it is made: m times the same value -/
def mz_row (c : ClassId) (M : Nat) (v : Value) : Cell := { cls := c, slots := Array.replicate M v, vm := .none }
/-- the array of rows, when i rows stand behind it (it lies at b, they at b + 1 ..) -/
def mz_out (c : ClassId) (N b i : Nat) : Cell := arrV c N (fun j => va_rf (if j < i then some (b + 1 + j) else none))
theorem mz_out_size (c : ClassId) (N b i : Nat) : (mz_out c N b i).slots.size = N := arrV_size _ _ _
theorem mz_out_zero (c : ClassId) (N b : Nat) : ({ cls := c, slots := Array.replicate N .null, vm := .none } : Cell) = mz_out c N b 0 := by
  rw [arrV_new]
  unfold mz_out
  refine congrArg (arrV c N) (funext fun j => ?_)
  rw [if_neg (Nat.not_lt_zero j)]
  rfl
theorem mz_out_next (c : ClassId) (N b i : Nat) : (mz_out c N b i).setSlot i (.ref (b + 1 + i)) = mz_out c N b (i + 1) := by
  unfold mz_out
  rw [arrV_store]
  refine congrArg (arrV c N) (funext fun j => ?_)
  unfold updV
  by_cases e : j = i
  · rw [if_pos e, e, if_pos (Nat.lt_succ_self i)]
    rfl
  · rw [if_neg e]
    show va_rf (if j < i then some (b + 1 + j) else none) = va_rf (if j < i + 1 then some (b + 1 + j) else none)
    by_cases h : j < i
    · rw [if_pos h, if_pos (by omega)]
    · rw [if_neg h, if_neg (by omega)]
/-- the state when i rows have been made and put in -/
def mz_st (S : State) (cA cy : ClassId) (N M : Nat) (v : Value) : Nat → State
  | 0 => S.pushCell (mz_out cA N S.heap.size 0)
  | i + 1 => ((mz_st S cA cy N M v i).pushCell (mz_row cy M v)).setCell S.heap.size (mz_out cA N S.heap.size (i + 1))
theorem mz_top (S : State) (cA cy : ClassId) (N M : Nat) (v : Value) (f : JFrame) : ∀ i : Nat, mz_st (S.setTop f) cA cy N M v i = (mz_st S cA cy N M v i).setTop f
  | 0 => rfl
  | i + 1 => by
    unfold mz_st
    rw [mz_top S cA cy N M v f i]
    rfl
theorem mz_vm (S : State) (cA cy : ClassId) (N M : Nat) (v : Value) : ∀ i : Nat, (mz_st S cA cy N M v i).vm = S.vm
  | 0 => rfl
  | i + 1 => mz_vm S cA cy N M v i
theorem mz_topJ (S : State) (cA cy : ClassId) (N M : Nat) (v : Value) : ∀ i : Nat, (mz_st S cA cy N M v i).topJava? = S.topJava?
  | 0 => rfl
  | i + 1 => mz_topJ S cA cy N M v i
theorem mz_size (S : State) (cA cy : ClassId) (N M : Nat) (v : Value) : ∀ i : Nat, (mz_st S cA cy N M v i).heap.size = S.heap.size + 1 + i
  | 0 => by
    show (S.heap.push _).size = _
    rw [Array.size_push]
  | i + 1 => by
    show (((mz_st S cA cy N M v i).heap.push _).setIfInBounds _ _).size = _
    rw [Array.size_setIfInBounds, Array.size_push, mz_size S cA cy N M v i]
    omega
theorem mz_used (S : State) (cA cy : ClassId) (N M : Nat) (v : Value) : ∀ i : Nat, (mz_st S cA cy N M v i).slotsUsed = S.slotsUsed + N + i * M
  | 0 => by
    show S.slotsUsed + (mz_out cA N S.heap.size 0).slots.size = _
    rw [mz_out_size, Nat.zero_mul]
    rfl
  | i + 1 => by
    show (mz_st S cA cy N M v i).slotsUsed + (Array.replicate M v).size = _
    rw [mz_used S cA cy N M v i, Array.size_replicate, Nat.succ_mul]
    omega
theorem mz_head (S : State) (cA cy : ClassId) (N M : Nat) (v : Value) : ∀ i : Nat, (mz_st S cA cy N M v i).heap[S.heap.size]? = some (mz_out cA N S.heap.size i)
  | 0 => by
    show (S.heap.push _)[S.heap.size]? = _
    rw [Array.getElem?_push_size]
  | i + 1 => by
    show (((mz_st S cA cy N M v i).heap.push _).setIfInBounds _ _)[S.heap.size]? = _
    rw [Array.getElem?_setIfInBounds_self_of_lt (by rw [Array.size_push, mz_size S cA cy N M v i]; omega)]
theorem mz_head' (S : State) (cA cy : ClassId) (N M : Nat) (v : Value) (i : Nat) (x : Cell) : ((mz_st S cA cy N M v i).pushCell x).heap[S.heap.size]? = some (mz_out cA N S.heap.size i) := by
  show ((mz_st S cA cy N M v i).heap.push x)[S.heap.size]? = _
  rw [Array.getElem?_push, if_neg (by rw [mz_size S cA cy N M v i]; omega)]
  exact mz_head S cA cy N M v i
theorem mz_old (S : State) (cA cy : ClassId) (N M : Nat) (v : Value) {x : Nat} (hx : x < S.heap.size) : ∀ i : Nat, (mz_st S cA cy N M v i).heap[x]? = S.heap[x]?
  | 0 => by
    show (S.heap.push _)[x]? = _
    rw [Array.getElem?_push, if_neg (by omega)]
  | i + 1 => by
    show (((mz_st S cA cy N M v i).heap.push _).setIfInBounds _ _)[x]? = _
    rw [Array.getElem?_setIfInBounds_ne (by omega), Array.getElem?_push, if_neg (by rw [mz_size S cA cy N M v i]; omega)]
    exact mz_old S cA cy N M v hx i
theorem mz_rows (S : State) (cA cy : ClassId) (N M : Nat) (v : Value) : ∀ i j : Nat, j < i → (mz_st S cA cy N M v i).heap[S.heap.size + 1 + j]? = some (mz_row cy M v)
  | 0, j, hj => absurd hj (Nat.not_lt_zero j)
  | i + 1, j, hj => by
    show (((mz_st S cA cy N M v i).heap.push _).setIfInBounds _ _)[S.heap.size + 1 + j]? = _
    rw [Array.getElem?_setIfInBounds_ne (by omega), Array.getElem?_push, mz_size S cA cy N M v i]
    by_cases h : S.heap.size + 1 + j = S.heap.size + 1 + i
    · rw [if_pos h]
    · rw [if_neg h]
      exact mz_rows S cA cy N M v i j (by omega)
/-- a loop over a row of numbers, a state for each -/
theorem mz_for {f : Nat → PUnit → Sem (ForInStep PUnit)} {Q : PUnit → Pre} {E : CtlPost} {e : Env} {G : Nat → State} {N : Nat}
    (hf : ∀ i, i < N → ∀ (Q1 : ForInStep PUnit → Pre) (d : Bool) (acts : List Action), (∀ (d1 : Bool) (acts1 : List Action), Q1 (.yield ⟨⟩) d1 acts1 (G (i + 1))) → wp (f i ⟨⟩) Q1 E e d acts (G i))
    (hq : ∀ (d : Bool) (acts : List Action), Q ⟨⟩ d acts (G N)) : ∀ (r i : Nat), i + r = N → ∀ (d : Bool) (acts : List Action), wp (forIn (List.range' i r 1) PUnit.unit f) Q E e d acts (G i)
  | 0, i, h, d, acts => by
    have e : i = N := h
    rw [e]
    exact hq d acts
  | r + 1, i, h, d, acts => by
    rw [List.range'_succ, List.forIn_cons, wp_bind']
    exact hf i (by omega) _ d acts (fun d1 acts1 => mz_for hf hq r (i + 1) (by omega) d1 acts1)
/-- one row -/
theorem mz_make1 {Q : Addr → Pre} {E : CtlPost} {e : Env} {d : Bool} {acts : List Action} {S : State} {cy comp : ClassId} {kY : Class} {k : Int32} {ty : FieldType}
    (hkY : S.vm.classes[cy]? = some kY) (hY : kY.kind = .array comp ty) (hk : ¬ k < 0) (hl2 : ¬ k.toNatClampNeg > e.platform.arrayLengthLimit) (hm2 : ¬ k.toNatClampNeg * componentBytes ty > e.platform.maxHeapBytes)
    (hfit : fits ty (defaultValue ty) = true) (hc : S.heap.size < e.platform.maxCells) (hs : S.slotsUsed + k.toNatClampNeg ≤ e.platform.maxSlots)
    (hq : ∀ (acts : List Action), Q S.heap.size d acts (S.pushCell (mz_row cy k.toNatClampNeg (defaultValue ty)))) : wp (Jvm.Op.multianewarray.make cy [k]) Q E e d acts S := by
  rw [Jvm.Op.multianewarray.make]
  simp only [wp_bind', hk, if_false, wp_pure', Jvm.W.theClass, hkY, Option.some.injEq, exists_eq_left', hY]
  exact Jvm.W.newArray_of hkY hY hl2 hm2 hc hs hfit hq
/-- one array of arrays -/
theorem mz_make {Q : Addr → Pre} {E : CtlPost} {e : Env} {d : Bool} {acts : List Action} {S : State} {cA cy comp : ClassId} {kA kY : Class} {n k : Int32} {ty : FieldType}
    (hkA : S.vm.classes[cA]? = some kA) (hA : kA.kind = .array cy (.array ty)) (hkY : S.vm.classes[cy]? = some kY) (hY : kY.kind = .array comp ty) (hn : ¬ n < 0) (hk : ¬ k < 0)
    (hl1 : ¬ n.toNatClampNeg > e.platform.arrayLengthLimit) (hl2 : ¬ k.toNatClampNeg > e.platform.arrayLengthLimit) (hm1 : ¬ n.toNatClampNeg * componentBytes (.array ty) > e.platform.maxHeapBytes) (hm2 : ¬ k.toNatClampNeg * componentBytes ty > e.platform.maxHeapBytes)
    (hfit : fits ty (defaultValue ty) = true) (hc : S.heap.size + (1 + n.toNatClampNeg) ≤ e.platform.maxCells) (hs : S.slotsUsed + (n.toNatClampNeg + n.toNatClampNeg * k.toNatClampNeg) ≤ e.platform.maxSlots)
    (hq : ∀ (d : Bool) (acts : List Action), Q S.heap.size d acts (mz_st S cA cy n.toNatClampNeg k.toNatClampNeg (defaultValue ty) n.toNatClampNeg)) : wp (Jvm.Op.multianewarray.make cA [n, k]) Q E e d acts S := by
  rw [Jvm.Op.multianewarray.make]
  simp only [wp_bind', hn, if_false, wp_pure', Jvm.W.theClass, hkA, Option.some.injEq, exists_eq_left', hA]
  refine Jvm.W.newArray_of hkA hA hl1 hm1 (by omega) (by omega) rfl (fun acts1 => ?_)
  have hnone : [k].find? (fun x => decide (x < 0)) = none := by
    rw [List.find?_cons_of_neg (by rw [decide_eq_true_eq]; exact hk)]
    rfl
  rw [hnone]
  have key : ∀ (d : Bool) (acts : List Action), wp (do
      forIn [:n.toNatClampNeg] PUnit.unit fun i (_ : PUnit) => do
        let a1 ← Jvm.Op.multianewarray.make cy [k]
        writeLoc S.heap.size i (Value.ref a1)
        Pure.pure (ForInStep.yield PUnit.unit)
      Pure.pure S.heap.size) Q E e d acts (mz_st S cA cy n.toNatClampNeg k.toNatClampNeg (defaultValue ty) 0) := fun d acts => by
    rw [wp_bind', Std.Legacy.Range.forIn_eq_forIn_range']
    have hz : Std.Legacy.Range.size [:n.toNatClampNeg] = n.toNatClampNeg := by
      simp [Std.Legacy.Range.size]
    rw [hz]
    refine mz_for (G := mz_st S cA cy n.toNatClampNeg k.toNatClampNeg (defaultValue ty)) (N := n.toNatClampNeg) (fun i hi Q1 d1 acts1 hQ => ?_) hq n.toNatClampNeg 0 (Nat.zero_add _) d acts
    have hmul : (i + 1) * k.toNatClampNeg ≤ n.toNatClampNeg * k.toNatClampNeg := Nat.mul_le_mul_right _ hi
    rw [Nat.succ_mul] at hmul
    rw [wp_bind']
    refine mz_make1 (by rw [mz_vm]; exact hkY) hY hk hl2 hm2 hfit (by rw [mz_size]; omega) (by rw [mz_used]; omega) (fun acts2 => ?_)
    rw [wp_bind', Jvm.W.writeLoc, mz_size]
    refine ⟨_, mz_head' S cA cy _ _ _ i _, (fun h => by cases h), by rw [mz_out_size]; exact hi, ?_, ?_⟩
    · show State.fitsSlot (mz_st S cA cy n.toNatClampNeg k.toNatClampNeg (defaultValue ty) i) cA .none i _ = true
      simp [State.fitsSlot, State.slotType?, mz_vm, hkA, hA, fits]
    · rw [mz_out_next]
      exact hQ _ _
  have e0 : S.pushCell { cls := cA, slots := Array.replicate n.toNatClampNeg .null } = mz_st S cA cy n.toNatClampNeg k.toNatClampNeg (defaultValue ty) 0 := congrArg S.pushCell (mz_out_zero cA n.toNatClampNeg S.heap.size)
  rw [e0]
  split
  · exact key _ _
  · exact key _ _
section MZS
variable {p : Program} {l : Launch} {e : Env} {R : Room} {s : State} {m : MethodId} {args : Array Value} {below : List Frame} {meth : Method} {c : Code} {T : State} {locs : List Loc} {cells slots : Nat}
theorem mz_stand (X : Stand p l e R s m args below meth c T locs cells slots) (cA cy : ClassId) (N M : Nat) (v : Value) : ∀ i : Nat, Stand p l e R s m args below meth c (mz_st T cA cy N M v i) locs (cells + 1 + i) (slots + N + i * M)
  | 0 => by
    have h := X.pushed (mz_out cA N T.heap.size 0)
    rw [mz_out_size] at h
    rw [Nat.zero_mul]
    exact h
  | i + 1 => by
    have h1 := (mz_stand X cA cy N M v i).pushed (mz_row cy M v)
    have h2 := h1.stored (mz_head' T cA cy N M v i (mz_row cy M v)) i (.ref (T.heap.size + 1 + i))
    rw [mz_out_next] at h2
    have h3 := h2.dropFresh (fun x hx => by
      rw [List.mem_singleton.mp hx]
      exact X.heapGrown)
    have e1 : slots + N + i * M + (mz_row cy M v).slots.size = slots + N + (i + 1) * M := by
      show slots + N + i * M + (Array.replicate M v).size = _
      rw [Array.size_replicate, Nat.succ_mul]
      omega
    rw [e1] at h3
    exact h3
/-- the instruction, its entry noted -/
theorem mz_sem {Q : Unit → Pre} {E : CtlPost} {d : Bool} {acts : List Action} {S : State} {f : JFrame} {index : Nat} {cA cy comp : ClassId} {kA kY : Class} {n k : Int32} {rest : List Value} {ty : FieldType} {vm1 : Vm} (hs0 : S.topJava?.isSome) (hstack : f.stack = .int k :: .int n :: rest)
    (hg : (Jvm.resolveClass f.method.cls index).Gives e.toSetting S.vm (.ok cA) vm1) (hr : vm1.classReady f.method.cls index cA) (hsz : vm1.classes.size ≤ S.vm.classes.size)
    (hkA : vm1.classes[cA]? = some kA) (hA : kA.kind = .array cy (.array ty)) (hkY : vm1.classes[cy]? = some kY) (hY : kY.kind = .array comp ty) (hn : ¬ n < 0) (hk : ¬ k < 0)
    (hl1 : ¬ n.toNatClampNeg > e.platform.arrayLengthLimit) (hl2 : ¬ k.toNatClampNeg > e.platform.arrayLengthLimit) (hm1 : ¬ n.toNatClampNeg * componentBytes (.array ty) > e.platform.maxHeapBytes) (hm2 : ¬ k.toNatClampNeg * componentBytes ty > e.platform.maxHeapBytes)
    (hfit : fits ty (defaultValue ty) = true) (hc : S.heap.size + (1 + n.toNatClampNeg) ≤ e.platform.maxCells) (hs : S.slotsUsed + (n.toNatClampNeg + n.toNatClampNeg * k.toNatClampNeg) ≤ e.platform.maxSlots)
    (hq : ∀ (d : Bool) (acts : List Action), Q () d acts ((mz_st (S.setVm vm1) cA cy n.toNatClampNeg k.toNatClampNeg (defaultValue ty) n.toNatClampNeg).setTop { f with stack := .ref S.heap.size :: rest })) :
    wp (Jvm.Op.multianewarray.sem index 2) Q E e d acts (S.setTop f) := by
  unfold Jvm.Op.multianewarray.sem
  rw [wp_bind', Jvm.W.resolveClassAt_transfer (s := S.setTop f) (State.method?_setTop f hs0) hg hr hsz]
  rw [Jvm.W.resolveClassAt_ready (s := (S.setTop f).setVm vm1) (State.method?_setTop f hs0) hr]
  rw [State.setVm_setTop, wp_bind']
  have hs1 : (S.setVm vm1).topJava?.isSome := hs0
  rw [show popN 2 = (pop >>= fun b => pop >>= fun a => Pure.pure [a, b]) from rfl, wp_bind', Jvm.W.pop]
  refine ⟨_, State.topJava?_setTop' f hs1, .int k, .int n :: rest, hstack, ?_⟩
  rw [wp_bind', Jvm.W.pop]
  refine ⟨_, State.topJava?_setTop' _ (show ((S.setVm vm1).setTop f).topJava?.isSome from by rw [State.topJava?_setTop' f hs1]; rfl), .int n, rest, rfl, ?_⟩
  simp only [List.nil_append, List.cons_append, List.mapM_cons, List.mapM_nil, wp_bind', wp_pure', State.setTop_setTop]
  refine mz_make (S := (S.setVm vm1).setTop { f with stack := rest }) hkA hA hkY hY hn hk hl1 hl2 hm1 hm2 hfit hc hs (fun d1 acts1 => ?_)
  rw [mz_top, wp_bind', Jvm.W.mark, Jvm.W.pushRef]
  have hs2 : (mz_st (S.setVm vm1) cA cy n.toNatClampNeg k.toNatClampNeg (defaultValue ty) n.toNatClampNeg).topJava?.isSome := by
    rw [mz_topJ]
    exact hs0
  refine ⟨_, State.topJava?_setTop' _ hs2, ?_⟩
  rw [State.setTop_setTop]
  exact hq _ _
/-- 'multianewarray' of two dimensions, as a step of the walk -/
theorem mz_step (X : Stand p l e R s m args below meth c T locs cells slots) (hexec : p.tables.exec = Jvm.exec) {own : String} {index : Nat} {ty : FieldType} (hown : s.vm.findClass own = some m.cls) (hclink : (Cond.classLink own index ("[" ++ (FieldType.array ty).toString)).before args s = true) (hover : (Cond.arrayOver (.array ty)).before args s = true) (harr : (Cond.arrayClass ty).before args s = true)
    {g : JFrame} (hg : g.method = m) (hdg : decode c.code g.pc = .ok (.multianewarray index 2, 4)) {n k : Int32} {rest : List Value} (hstack : g.stack = .int k :: .int n :: rest) (hn : ¬ n < 0) (hk : ¬ k < 0)
    (hb1 : n.toNatClampNeg * 4 ≤ 536870912) (hb2 : k.toNatClampNeg * componentBytes ty ≤ 536870912) (hb3 : k.toNatClampNeg ≤ 536870912) (hdf : fits ty (defaultValue ty) = true) (hcells : cells + (1 + n.toNatClampNeg) ≤ R.cells) (hslots : slots + (n.toNatClampNeg + n.toNatClampNeg * k.toNatClampNeg) ≤ R.slots) :
    ∃ (vm1 : Vm) (cA cy : ClassId), s.vm.findClass ("[" ++ (FieldType.array ty).toString) = some cA ∧ s.vm.findClass (FieldType.array ty).toString = some cy ∧ ArrOfT s cA (.array ty) ∧
      Stand p l e R s m args below meth c (mz_st (T.setVm vm1) cA cy n.toNatClampNeg k.toNatClampNeg (defaultValue ty) n.toNatClampNeg) locs (cells + 1 + n.toNatClampNeg) (slots + n.toNatClampNeg + n.toNatClampNeg * k.toNatClampNeg) ∧
      ∀ target, Steps p.tables e below ((mz_st (T.setVm vm1) cA cy n.toNatClampNeg k.toNatClampNeg (defaultValue ty) n.toNatClampNeg).setTop { g with pc := g.pc + 4, stack := .ref T.heap.size :: rest }) target → Steps p.tables e below (T.setTop g) target := by
  subst hg
  have hpl : e.platform.magicAccessors = ({} : Platform).magicAccessors := by rw [X.admits.platform]
  obtain ⟨cy, cA, kA, hcy, hcA, hkA, hA⟩ := mz_over hover
  obtain ⟨cy', kY, comp, hcy', hkY, hY⟩ := Cond.arrayClass_spec harr
  have ey : some cy = some cy' := hcy.symm.trans hcy'
  cases ey
  obtain ⟨cc, hfcc, hcl⟩ := Cond.classLink_spec hown hclink e.platform hpl
  cases hcA.symm.trans hfcc
  obtain ⟨hg1, hwarm, hready⟩ := State.classEntry (e := e) X.warmed hcl
  have hsz : (T.vm.noted g.method.cls index (.cls cA)).classes.size ≤ T.vm.classes.size := Nat.le_of_eq (Vm.size_noted ..)
  generalize T.vm.noted g.method.cls index (.cls cA) = vm1 at hg1 hwarm hready hsz
  obtain ⟨kA1, hkA1, eA⟩ := hwarm.alike.2.2 _ _ hkA
  obtain ⟨kY1, hkY1, eY⟩ := hwarm.alike.2.2 _ _ hkY
  have hA1 : kA1.kind = .array cy (.array ty) := by rw [eA]; exact hA
  have hY1 : kY1.kind = .array comp ty := by rw [eY]; exact hY
  obtain ⟨hr1, hr2⟩ := X.roomAbove hcells hslots
  have hl1 : ¬ n.toNatClampNeg > e.platform.arrayLengthLimit := by rw [Launch.admits_arrayLengthLimit X.admits]; omega
  have hl2 : ¬ k.toNatClampNeg > e.platform.arrayLengthLimit := by rw [Launch.admits_arrayLengthLimit X.admits]; omega
  have hm1 : ¬ n.toNatClampNeg * componentBytes (.array ty) > e.platform.maxHeapBytes := by rw [Launch.admits_maxHeapBytes X.admits]; show ¬ n.toNatClampNeg * 4 > 536870912; omega
  have hm2 : ¬ k.toNatClampNeg * componentBytes ty > e.platform.maxHeapBytes := by rw [Launch.admits_maxHeapBytes X.admits]; omega
  refine ⟨vm1, cA, cy, hcA, hcy, fun N z => ⟨(fun q hq => by cases hq), kA, hkA, cy, hA⟩, mz_stand (X.noted hwarm) cA cy _ _ _ _, fun target hrest => ?_⟩
  refine Steps.instr (c := c) X.here ?_
  rw [hdg, hexec]
  show wpRun (Jvm.Op.multianewarray.sem index 2) _ _ e (T.setTop g)
  refine mz_sem X.here.top hstack hg1 hready hsz hkA1 hA1 hkY1 hY1 hn hk hl1 hl2 hm1 hm2 hdf hr1 hr2 (fun d acts acts1 => ?_)
  rw [afterInstr_ok]
  exact hrest
end MZS
/-! ===== BEGIN new T[n][m]: the outer array a place, the inner ones among the pooled ===== -/
/-- f, but v at every address of l -/
def vr_up {α : Type} (f : Nat → α) (l : List Nat) (v : α) : Nat → α := fun a => if a ∈ l then v else f a
theorem vr_up_in {α : Type} {f : Nat → α} {l : List Nat} {v : α} {a : Nat} (h : a ∈ l) : vr_up f l v a = v := if_pos h
theorem vr_up_ne {α : Type} {f : Nat → α} {l : List Nat} {v : α} {a : Nat} (h : a ∉ l) : vr_up f l v a = f a := if_neg h
theorem vr_rows {L l : List Nat} {f : Nat → va_E} {e : va_E} (h : ∀ a, a ∈ l → a ∉ L) : va_pl L f ++ l.map (fun a => (a, e)) = va_pl (L ++ l) (vr_up f l e) := by
  unfold va_pl
  rw [List.map_append]
  congr 1
  · apply List.map_congr_left
    intro a ha
    rw [vr_up_ne (fun q => h a q ha)]
  · apply List.map_congr_left
    intro a ha
    rw [vr_up_in ha]
theorem vr_lay {X rows : va_W} {x : Nat × va_E} {pl : va_W} {D : va_G} {cl : List vw_C} {H : Heap} (hP : va_P D cl (((X ++ pl) ++ [x]) ++ rows) H) : va_P D cl ((X ++ [x]) ++ (pl ++ rows)) H := by
  rw [List.append_assoc (X ++ pl)] at hP
  have h := va_P.swap hP
  rw [← List.append_assoc X] at h
  have h2 := va_P.swap h
  rw [List.append_assoc (X ++ [x])] at h2
  exact h2
theorem vr_layD {X rows : va_W} {x : Nat × va_E} {pl : va_W} {A : Nat → Prop} (hD : va_D A (((X ++ pl) ++ [x]) ++ rows)) : va_D A ((X ++ [x]) ++ (pl ++ rows)) := by
  rw [List.append_assoc (X ++ pl)] at hD
  have h := va_D.swap hD
  rw [← List.append_assoc X] at h
  have h2 := va_D.swap h
  rw [List.append_assoc (X ++ [x])] at h2
  exact h2
section VGM
variable {p : Program} {l : Launch} {e : Env} {R : Room} {s : State} {m : MethodId} {args : Array Value} {below : List Frame} {meth : Method} {c : Code} {H : Heap} {locs : List Loc} {cells slots : Nat} {Q : State → Prop}
variable {cc : ByteArray} {pc : Nat} {ls : Array Slot} {rest : List Value} {D : va_G} {cl : List vw_C} {A : Nat → Prop} {a : Nat} {tys : List (ClassId × FieldType)} {ws : va_W} {H0 : Heap}
theorem va_mna {X : va_W} {L : List Nat} {f : Nat → va_E} {cc : ByteArray} (hexec : p.tables.exec = Jvm.exec) (hb : c.code = cc) {own : String} {index : Nat} {ty : FieldType} {cy : ClassId} (hown : s.vm.findClass own = some m.cls) (hclink : (Cond.classLink own index ("[" ++ (FieldType.array ty).toString)).before args s = true) (hover : va_AOA ty s) (harr : (Cond.arrayClass ty).before args s = true) (hcy : s.vm.findClass (FieldType.array ty).toString = some cy)
    (hK : va_K D cl tys s) (hP : va_P D cl (X ++ va_pl L f) H) (hD : va_D A (X ++ va_pl L f)) (hS : va_S A H0 H locs) (hA : ∀ q, H0.size ≤ q → A q) {n k : Int32} {N' K' : Nat} {z : vp_A} (hn : ¬ n < 0) (hk : ¬ k < 0) (hN : n.toNatClampNeg = N') (hM : k.toNatClampNeg = K')
    (hb1 : N' * 4 ≤ 536870912) (hb2 : K' * componentBytes ty ≤ 536870912) (hb3 : K' ≤ 536870912) (hdf : fits ty (defaultValue ty) = true) (hdd : (defaultValue ty).isDefault = true) (hcells : cells + (1 + N') ≤ R.cells) (hslots : slots + (N' + N' * K') ≤ R.slots) (hz : ∀ c : ClassId, mz_row c K' (defaultValue ty) = vp_cell c z) (hdg : decode cc pc = .ok (.multianewarray index 2, 4))
    (kk : ∀ (q : Nat) (r : Nat → Nat) (cA : ClassId) (H1 : Heap), (∀ i j : Nat, i < N' → j < N' → r i = r j → i = j) → (∀ i : Nat, i < N' → r i ∉ L) → va_K D cl (tys ++ [(cA, .array ty)]) s →
      va_P D cl ((X ++ [(q, .inl (cA, N', .inr (.inr (.inr (.inr (fun i => if i < N' then some (r i) else none))))))]) ++ va_pl (L ++ (List.range N').map r) (vr_up f ((List.range N').map r) (.inl (cy, z)))) H1 → va_D A ((X ++ [(q, .inl (cA, N', .inr (.inr (.inr (.inr (fun i => if i < N' then some (r i) else none))))))]) ++ va_pl (L ++ (List.range N').map r) (vr_up f ((List.range N').map r) (.inl (cy, z)))) → va_S A H0 H1 locs →
      W p l e R s m args below meth c H1 locs (cells + 1 + N') (slots + N' + N' * K') Q (F0 m (pc + 4) ls (.ref q :: rest))) : W p l e R s m args below meth c H locs cells slots Q (F0 m pc ls (.int k :: .int n :: rest)) := by
  subst hN
  subst hM
  intro T hT Xs
  obtain ⟨vm₁, cA, comp, fA, fC, hAr, X', step⟩ := mz_step Xs hexec hown hclink (va_AOA.use hover) harr (g := F0 m pc ls (.int k :: .int n :: rest)) rfl (by rw [hb]; exact hdg) rfl hn hk hb1 hb2 hb3 hdf hcells hslots
  have ec : some cy = some comp := hcy.symm.trans fC
  cases ec
  generalize hF : mz_st (T.setVm vm₁) cA cy n.toNatClampNeg k.toNatClampNeg (defaultValue ty) n.toNatClampNeg = F at X' step
  have hTh : (T.setVm vm₁).heap = H := hT
  have f1 := mz_size (T.setVm vm₁) cA cy n.toNatClampNeg k.toNatClampNeg (defaultValue ty) n.toNatClampNeg
  have f2 := mz_head (T.setVm vm₁) cA cy n.toNatClampNeg k.toNatClampNeg (defaultValue ty) n.toNatClampNeg
  rw [hF, hTh] at f1 f2
  have hold : ∀ x : Nat, x < H.size → F.heap[x]? = H[x]? := fun x hx => by
    have := mz_old (T.setVm vm₁) cA cy n.toNatClampNeg k.toNatClampNeg (defaultValue ty) (x := x) (by rw [hTh]; exact hx) n.toNatClampNeg
    rw [hF, hTh] at this
    exact this
  have hrow : ∀ j : Nat, j < n.toNatClampNeg → F.heap[H.size + 1 + j]? = some (vp_cell cy z) := fun j hj => by
    have := mz_rows (T.setVm vm₁) cA cy n.toNatClampNeg k.toNatClampNeg (defaultValue ty) n.toNatClampNeg j hj
    rw [hF, hTh, hz] at this
    exact this
  have hout : mz_out cA n.toNatClampNeg H.size n.toNatClampNeg = vp_cell cA (n.toNatClampNeg, .inr (.inr (.inr (.inr (fun i => if i < n.toNatClampNeg then some (H.size + 1 + i) else none))))) := by
    rw [vp_cell_q]
    rfl
  rw [hout] at f2
  have hlt : ∀ a, a ∈ L → a < H.size := fun a ha => by
    obtain ⟨k9, hk9⟩ := va_pl_get (X := X) (f := f) ha
    exact (hP k9 _ hk9).lt
  have hnl : ∀ i : Nat, i < n.toNatClampNeg → H.size + 1 + i ∉ L := fun i _ h => by
    have := hlt _ h
    omega
  have hnm : ∀ a, a ∈ (List.range n.toNatClampNeg).map (fun i => H.size + 1 + i) → a ∉ L := fun a ha h => by
    obtain ⟨i, -, rfl⟩ := List.mem_map.mp ha
    have := hlt _ h
    omega
  have hP0 : va_P D cl (X ++ va_pl L f) F.heap := hP.kept (fun k9 x hx => hold x.1 ((hP k9 x hx).lt))
  have hP1 : va_P D cl ((X ++ va_pl L f) ++ [(H.size, .inl (cA, n.toNatClampNeg, .inr (.inr (.inr (.inr (fun i => if i < n.toNatClampNeg then some (H.size + 1 + i) else none))))))]) F.heap := hP0.app (fun k9 x hx => by
    have h0 : k9 < 1 := (List.getElem?_eq_some_iff.mp hx).1
    rw [show k9 = 0 by omega] at hx
    cases hx
    exact f2)
  have hP2 : va_P D cl (((X ++ va_pl L f) ++ [(H.size, .inl (cA, n.toNatClampNeg, .inr (.inr (.inr (.inr (fun i => if i < n.toNatClampNeg then some (H.size + 1 + i) else none))))))]) ++ ((List.range n.toNatClampNeg).map (fun i => H.size + 1 + i)).map (fun a => (a, .inl (cy, z)))) F.heap := hP1.app (fun k9 x hx => by
    obtain ⟨a, ha, rfl⟩ := List.mem_map.mp (List.mem_of_getElem? hx)
    obtain ⟨i, hi, rfl⟩ := List.mem_map.mp ha
    exact hrow i (List.mem_range.mp hi))
  have hD2 : va_D A (((X ++ va_pl L f) ++ [(H.size, .inl (cA, n.toNatClampNeg, .inr (.inr (.inr (.inr (fun i => if i < n.toNatClampNeg then some (H.size + 1 + i) else none))))))]) ++ ((List.range n.toNatClampNeg).map (fun i => H.size + 1 + i)).map (fun a => (a, .inl (cy, z)))) := by
    have hD1 := hD.push (e := .inl (cA, n.toNatClampNeg, .inr (.inr (.inr (.inr (fun i => if i < n.toNatClampNeg then some (H.size + 1 + i) else none)))))) hP rfl (hA _ hS.1)
    generalize hW1 : (X ++ va_pl L f) ++ [(H.size, .inl (cA, n.toNatClampNeg, .inr (.inr (.inr (.inr (fun i => if i < n.toNatClampNeg then some (H.size + 1 + i) else none))))))] = W1 at hD1 hP1 ⊢
    have hle : ∀ (k9 : Nat) (x : Nat × va_E), W1[k9]? = some x → x.1 ≤ H.size := fun k9 x hx => by
      rw [← hW1] at hx
      by_cases hl : k9 < (X ++ va_pl L f).length
      · rw [List.getElem?_append_left hl] at hx
        exact Nat.le_of_lt ((hP k9 x hx).lt)
      · rw [List.getElem?_append_right (by omega)] at hx
        have h0 : k9 - (X ++ va_pl L f).length < 1 := (List.getElem?_eq_some_iff.mp hx).1
        rw [show k9 - (X ++ va_pl L f).length = 0 by omega] at hx
        cases hx
        exact Nat.le_refl _
    have hr : ∀ (k9 : Nat) (x : Nat × va_E), (((List.range n.toNatClampNeg).map (fun i => H.size + 1 + i)).map (fun a => ((a, .inl (cy, z)) : Nat × va_E)))[k9]? = some x → x.1 = H.size + 1 + k9 := fun k9 x hx => by
      rw [List.getElem?_map, List.getElem?_map] at hx
      by_cases h9 : k9 < n.toNatClampNeg
      · rw [List.getElem?_range h9] at hx
        cases hx
        rfl
      · have hn0 : (List.range n.toNatClampNeg)[k9]? = none := List.getElem?_eq_none (by rw [List.length_range]; omega)
        rw [hn0] at hx
        cases hx
    refine ⟨fun i j x y hi hj hxy => ?_, fun k9 x hx => ?_⟩
    · by_cases h1 : i < W1.length <;> by_cases h2 : j < W1.length
      · rw [List.getElem?_append_left h1] at hi
        rw [List.getElem?_append_left h2] at hj
        exact hD1.1 i j x y hi hj hxy
      · rw [List.getElem?_append_left h1] at hi
        rw [List.getElem?_append_right (by omega)] at hj
        have := hle _ _ hi
        have := hr _ _ hj
        omega
      · rw [List.getElem?_append_right (by omega)] at hi
        rw [List.getElem?_append_left h2] at hj
        have := hle _ _ hj
        have := hr _ _ hi
        omega
      · rw [List.getElem?_append_right (by omega)] at hi hj
        have := hr _ _ hi
        have := hr _ _ hj
        omega
    · by_cases h1 : k9 < W1.length
      · rw [List.getElem?_append_left h1] at hx
        exact hD1.2 k9 x hx
      · rw [List.getElem?_append_right (by omega)] at hx
        have := hr _ _ hx
        exact hA _ (by have := hS.1; omega)
  have hK2 : va_K D cl (tys ++ [(cA, .array ty)]) s := ⟨hK.1, fun k9 x hx => by
    by_cases hl : k9 < tys.length
    · rw [List.getElem?_append_left hl] at hx
      exact hK.2 k9 x hx
    · rw [List.getElem?_append_right (by omega)] at hx
      have h0 : k9 - tys.length < 1 := (List.getElem?_eq_some_iff.mp hx).1
      rw [show k9 - tys.length = 0 by omega] at hx
      cases hx
      exact ⟨hAr, fA⟩⟩
  obtain ⟨t, a1, b1⟩ := kk H.size (fun i => H.size + 1 + i) cA F.heap (fun i j _ _ h => by have h9 : H.size + 1 + i = H.size + 1 + j := h; omega) hnl hK2 (by rw [← vr_rows hnm]; exact vr_lay hP2) (by rw [← vr_rows hnm]; exact vr_layD hD2) ⟨by rw [f1]; have := hS.1; omega, fun x h1 h2 => (hold x (Nat.lt_of_lt_of_le h1 hS.1)).trans (hS.2.1 x h1 h2), hS.2.2⟩ F rfl X'
  refine ⟨t, step t ?_, b1⟩
  have e : T.heap.size = H.size := by rw [hT]
  rw [e]
  exact a1
end VGM
/-! ===== END ===== -/

