def va_AOA (ty : FieldType) (U : State) : Prop := (Cond.arrayOver (.array ty)).before #[] U = true
theorem va_AOA.of {ty : FieldType} {A : Array Value} {U : State} (h : (Cond.arrayOver (.array ty)).before A U = true) : va_AOA ty U := h
theorem va_AOA.use {ty : FieldType} {A : Array Value} {U : State} (h : va_AOA ty U) : (Cond.arrayOver (.array ty)).before A U = true := h
theorem va_AOA.moved {ty : FieldType} {u U : State} (hvm : u.vm.Alike U.vm) (h : va_AOA ty u) : va_AOA ty U := by
  have q : (Cond.arrayOver (.array ty)).before #[] (u.setVm U.vm) = true := (Cond.arrayOver_setVmC hvm (.array ty)).trans h
  exact q
/-! new T[n][m]: the step itself, out of the instruction's meaning (own rows: mz_) -/
/-- what 'arrayOver' says of an array of arrays -/
theorem mz_over {ty : FieldType} {A : Array Value} {S : State} (h : (Cond.arrayOver (.array ty)).before A S = true) : ∃ (cy cA : ClassId) (kA : Class), S.vm.findClass (FieldType.array ty).toString = some cy ∧ S.vm.findClass ("[" ++ (FieldType.array ty).toString) = some cA ∧ S.vm.classes[cA]? = some kA ∧ kA.kind = .array cy (.array ty) := by
  simp only [Cond.before, Cond.holds, Cond.value, beq_iff_eq, Option.bind_eq_some_iff, Option.map_eq_some_iff] at h
  obtain ⟨cy, hy, cA, hi, kA, hk, hb⟩ := h
  have hp := (Array.findIdx?_eq_some_iff_getElem.mp hi)
  obtain ⟨hlt, hp, -⟩ := hp
  rw [(Array.getElem?_eq_some_iff.mp hk).2] at hp
  cases hkind : kA.kind with
  | array z w =>
    rw [hkind] at hb hp
    simp only [Bool.and_eq_true, decide_eq_true_eq, beq_iff_eq] at hb hp
    refine ⟨cy, cA, kA, hy, hb.2, hk, ?_⟩
    rw [hkind, hp, hb.1]
  | _ => rw [hkind] at hb; simp at hb
/-- a row as it is made: m times the same value -/
def mz_row (c : ClassId) (M : Nat) (v : Value) : Cell := { cls := c, slots := Array.replicate M v, vm := .none }
/-- the array of rows, when i rows stand behind it (it lies at b, they at b + 1 ..) -/
def mz_out (c : ClassId) (N b i : Nat) : Cell := arrV c N (fun j => va_rf (if j < i then some (b + 1 + j) else none))
theorem mz_out_size (c : ClassId) (N b i : Nat) : (mz_out c N b i).slots.size = N := arrV_size _ _ _
theorem mz_out_zero (c : ClassId) (N b : Nat) : ({ cls := c, slots := Array.replicate N .null, vm := .none } : Cell) = mz_out c N b 0 := by
  rw [arrV_new]
  unfold mz_out
  refine congrArg (arrV c N) (funext fun j => ?_)
  rw [if_neg (Nat.not_lt_zero j)]
  rfl
theorem mz_out_next (c : ClassId) (N b i : Nat) : (mz_out c N b i).setSlot i (.ref (b + 1 + i)) = mz_out c N b (i + 1) := by
  unfold mz_out
  rw [arrV_store]
  refine congrArg (arrV c N) (funext fun j => ?_)
  unfold updV
  by_cases e : j = i
  · rw [if_pos e, e, if_pos (Nat.lt_succ_self i)]
    rfl
  · rw [if_neg e]
    by_cases h : j < i
    · rw [if_pos h, if_pos (by omega)]
    · rw [if_neg h, if_neg (by omega)]
/-- the state when i rows have been made and put in -/
def mz_st (S : State) (cA cy : ClassId) (N M : Nat) (v : Value) : Nat → State
  | 0 => S.pushCell (mz_out cA N S.heap.size 0)
  | i + 1 => ((mz_st S cA cy N M v i).pushCell (mz_row cy M v)).setCell S.heap.size (mz_out cA N S.heap.size (i + 1))
theorem mz_top (S : State) (cA cy : ClassId) (N M : Nat) (v : Value) (f : JFrame) : ∀ i : Nat, mz_st (S.setTop f) cA cy N M v i = (mz_st S cA cy N M v i).setTop f
  | 0 => rfl
  | i + 1 => by
    unfold mz_st
    rw [mz_top S cA cy N M v f i]
    rfl
theorem mz_vm (S : State) (cA cy : ClassId) (N M : Nat) (v : Value) : ∀ i : Nat, (mz_st S cA cy N M v i).vm = S.vm
  | 0 => rfl
  | i + 1 => mz_vm S cA cy N M v i
theorem mz_size (S : State) (cA cy : ClassId) (N M : Nat) (v : Value) : ∀ i : Nat, (mz_st S cA cy N M v i).heap.size = S.heap.size + 1 + i
  | 0 => by
    show (S.heap.push _).size = _
    rw [Array.size_push]
  | i + 1 => by
    show (((mz_st S cA cy N M v i).heap.push _).setIfInBounds _ _).size = _
    rw [Array.size_setIfInBounds, Array.size_push, mz_size S cA cy N M v i]
    omega
theorem mz_used (S : State) (cA cy : ClassId) (N M : Nat) (v : Value) : ∀ i : Nat, (mz_st S cA cy N M v i).slotsUsed = S.slotsUsed + N + i * M
  | 0 => by
    show S.slotsUsed + (mz_out cA N S.heap.size 0).slots.size = _
    rw [mz_out_size, Nat.zero_mul]
    rfl
  | i + 1 => by
    show (mz_st S cA cy N M v i).slotsUsed + (Array.replicate M v).size = _
    rw [mz_used S cA cy N M v i, Array.size_replicate, Nat.succ_mul]
    omega
theorem mz_head (S : State) (cA cy : ClassId) (N M : Nat) (v : Value) : ∀ i : Nat, (mz_st S cA cy N M v i).heap[S.heap.size]? = some (mz_out cA N S.heap.size i)
  | 0 => by
    show (S.heap.push _)[S.heap.size]? = _
    rw [Array.getElem?_push_size]
  | i + 1 => by
    show (((mz_st S cA cy N M v i).heap.push _).setIfInBounds _ _)[S.heap.size]? = _
    rw [Array.getElem?_setIfInBounds_self_of_lt (by rw [Array.size_push, mz_size S cA cy N M v i]; omega)]
theorem mz_head' (S : State) (cA cy : ClassId) (N M : Nat) (v : Value) (i : Nat) (x : Cell) : ((mz_st S cA cy N M v i).pushCell x).heap[S.heap.size]? = some (mz_out cA N S.heap.size i) := by
  show ((mz_st S cA cy N M v i).heap.push x)[S.heap.size]? = _
  rw [Array.getElem?_push, if_neg (by rw [mz_size S cA cy N M v i]; omega)]
  exact mz_head S cA cy N M v i
theorem mz_old (S : State) (cA cy : ClassId) (N M : Nat) (v : Value) {x : Nat} (hx : x < S.heap.size) : ∀ i : Nat, (mz_st S cA cy N M v i).heap[x]? = S.heap[x]?
  | 0 => by
    show (S.heap.push _)[x]? = _
    rw [Array.getElem?_push, if_neg (by omega)]
  | i + 1 => by
    show (((mz_st S cA cy N M v i).heap.push _).setIfInBounds _ _)[x]? = _
    rw [Array.getElem?_setIfInBounds_ne (by omega), Array.getElem?_push, if_neg (by rw [mz_size S cA cy N M v i]; omega)]
    exact mz_old S cA cy N M v hx i
theorem mz_rows (S : State) (cA cy : ClassId) (N M : Nat) (v : Value) : ∀ i j : Nat, j < i → (mz_st S cA cy N M v i).heap[S.heap.size + 1 + j]? = some (mz_row cy M v)
  | 0, j, hj => absurd hj (Nat.not_lt_zero j)
  | i + 1, j, hj => by
    show (((mz_st S cA cy N M v i).heap.push _).setIfInBounds _ _)[S.heap.size + 1 + j]? = _
    rw [Array.getElem?_setIfInBounds_ne (by omega), Array.getElem?_push, mz_size S cA cy N M v i]
    by_cases h : S.heap.size + 1 + j = S.heap.size + 1 + i
    · rw [if_pos h]
    · rw [if_neg h]
      exact mz_rows S cA cy N M v i j (by omega)
/-- a loop over a row of numbers, a state for each -/
theorem mz_for {f : Nat → PUnit → Sem (ForInStep PUnit)} {Q : PUnit → Pre} {E : CtlPost} {e : Env} {G : Nat → State} {N : Nat}
    (hf : ∀ i, i < N → ∀ (Q1 : ForInStep PUnit → Pre) (d : Bool) (acts : List Action), (∀ (d1 : Bool) (acts1 : List Action), Q1 (.yield ⟨⟩) d1 acts1 (G (i + 1))) → wp (f i ⟨⟩) Q1 E e d acts (G i))
    (hq : ∀ (d : Bool) (acts : List Action), Q ⟨⟩ d acts (G N)) : ∀ (r i : Nat), i + r = N → ∀ (d : Bool) (acts : List Action), wp (forIn (List.range' i r 1) PUnit.unit f) Q E e d acts (G i)
  | 0, i, h, d, acts => by
    have e : i = N := h
    rw [e]
    exact hq d acts
  | r + 1, i, h, d, acts => by
    rw [List.range'_succ, List.forIn_cons, wp_bind']
    exact hf i (by omega) _ d acts (fun d1 acts1 => mz_for hf hq r (i + 1) (by omega) d1 acts1)
/-- one array of arrays -/
theorem mz_make {Q : Addr → Pre} {E : CtlPost} {e : Env} {d : Bool} {acts : List Action} {S : State} {cA cy comp : ClassId} {kA kY : Class} {n k : Int32} {ty : FieldType}
    (hkA : S.vm.classes[cA]? = some kA) (hA : kA.kind = .array cy (.array ty)) (hkY : S.vm.classes[cy]? = some kY) (hY : kY.kind = .array comp ty) (hn : ¬ n < 0) (hk : ¬ k < 0)
    (hl1 : ¬ n.toNatClampNeg > e.platform.arrayLengthLimit) (hl2 : ¬ k.toNatClampNeg > e.platform.arrayLengthLimit) (hm1 : ¬ n.toNatClampNeg * componentBytes (.array ty) > e.platform.maxHeapBytes) (hm2 : ¬ k.toNatClampNeg * componentBytes ty > e.platform.maxHeapBytes)
    (hfit : fits ty (defaultValue ty) = true) (hc : S.heap.size + (1 + n.toNatClampNeg) ≤ e.platform.maxCells) (hs : S.slotsUsed + (n.toNatClampNeg + n.toNatClampNeg * k.toNatClampNeg) ≤ e.platform.maxSlots)
    (hq : ∀ (d : Bool) (acts : List Action), Q S.heap.size d acts (mz_st S cA cy n.toNatClampNeg k.toNatClampNeg (defaultValue ty) n.toNatClampNeg)) : wp (Jvm.Op.multianewarray.make cA [n, k]) Q E e d acts S := by
  rw [Jvm.Op.multianewarray.make]
  simp only [wp_bind', hn, if_false, wp_pure', Jvm.W.theClass, hkA, Option.some.injEq, exists_eq_left', hA]
  skip
