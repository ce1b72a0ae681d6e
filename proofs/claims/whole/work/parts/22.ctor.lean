def nestC : List (String × Nat × MethodName) := [("SnowHouse", 38, ⟨"SnowHouse$Snow", "<init>", "()V"⟩), ("SnowHouse", 45, ⟨"SnowHouse$Plan", "<init>", "()V"⟩), ("SnowHouse", 48, ⟨"SnowHouse$Build", "<init>", "()V"⟩), ("SnowHouse$Build", 11, ⟨"SnowHouse$Snow", "<init>", "()V"⟩), ("SnowHouse$Build", 20, ⟨"SnowHouse$Plan", "<init>", "()V"⟩), ("SnowHouse", 62, ⟨"SnowHouse$Reader", "<init>", "()V"⟩), ("SnowHouse$Reader", 11, ⟨"SnowHouse$Snow", "<init>", "()V"⟩), ("SnowHouse$Reader", 20, ⟨"SnowHouse$Plan", "<init>", "()V"⟩), ("SnowHouse", 69, ⟨"SnowHouse$Indoors", "<init>", "()V"⟩), ("SnowHouse", 76, ⟨"SnowHouse$Wall", "<init>", "()V"⟩), ("SnowHouse", 83, ⟨"SnowHouse$Feast", "<init>", "()V"⟩)]
def KC (D : va_G) (tA : Nat → ClassId) (U : State) : Prop := va_K D vwCl (tyL tA) U ∧ (∀ q ∈ nestC, va_Nw (.methodLinkNest q.1 q.2.1 q.2.2 "SnowHouse") U) ∧ va_AO "SnowHouse$Snow" U ∧ va_AO "SnowHouse$Plan" U ∧ va_AO "SnowHouse$Build" U ∧ va_AOA .int U ∧ va_AOA .byte U
theorem KC.go {D : va_G} {tA : Nat → ClassId} {s U : State} (h : KC D tA s) (hW : s.WarmedH U.vm) : KC D tA U := ⟨va_K.moved hW.alike h.1, fun q hm => va_Nw.warmM hW (h.2.1 q hm), h.2.2.1.moved hW.alike, h.2.2.2.1.moved hW.alike, h.2.2.2.2.1.moved hW.alike, h.2.2.2.2.2.1.moved hW.alike, h.2.2.2.2.2.2.moved hW.alike⟩
theorem KC.same {D : va_G} {tA : Nat → ClassId} {u U : State} (hv : u.vm = U.vm) (h : KC D tA u) : KC D tA U := by
  have ha : u.vm.Alike U.vm := hv ▸ Vm.Alike.refl u.vm
  exact ⟨va_K.moved ha h.1, fun q hm => va_Nw.same rfl hv (h.2.1 q hm), h.2.2.1.moved ha, h.2.2.2.1.moved ha, h.2.2.2.2.1.moved ha, h.2.2.2.2.2.1.moved ha, h.2.2.2.2.2.2.moved ha⟩
def GC (p : Program) (l : Launch) (e : Env) (R : Room) (s : State) (m : MethodId) (args : Array Value) (below : List Frame) (meth : Method) (c : Code) (D : va_G) (nL : Nat) (A : Nat → Prop) (Qc : Array Value → State → Outcome → State → Prop) (mc ms cells slots pc : Nat) (lv : List (Nat × Value)) (st : List Value) (ws : va_W) : Prop :=
  ∀ (H : Heap) (locs : List Loc) (ls : Array Slot), va_P D vwCl ws H → va_D A ws → va_S A s.heap H locs → lv_has ls nL lv → W p l e R s m args below meth c H locs cells slots (MQ below Qc args s mc ms A) (F0 m pc ls st)
def CC (p : Program) (R : Room) (s : State) (m : MethodId) (args : Array Value) (meth : Method) (c : Code) (D : va_G) (tA : Nat → ClassId) (A : Nat → Prop) (own : String) (cc : ByteArray) (nL fr lo mc ms : Nat) : Prop :=
  p.tables.exec = Jvm.exec ∧ c.code = cc ∧ c.maxLocals = nL ∧ s.vm.findClass own = some m.cls ∧ (∀ x ∈ wsG, x.before args s = true) ∧ meth.sig.returnType = none ∧ meth.locks = false ∧ meth.name = "<init>" ∧ KC D tA s ∧ (∀ q, s.heap.size ≤ q → A q) ∧ R.frames = fr ∧ R.locals = lo ∧ R.cells = mc ∧ R.slots = ms
def FPF (own : String) (idx ci k : Nat) (ty : FieldType) : Prop := ∃ (C : String) (T : u_T) (N : Nat) (ty0 : Nat → FieldType), vwCl[ci]? = some (C, T, N) ∧ k < N ∧ (∀ x ∈ u_ws C T N, x ∈ wsG) ∧ Cond.fieldLink own idx (T k).1 (T k).2.1 (T k).2.2.1 ∈ wsG ∧ (∀ k, k < N → parseFieldDescriptor (T k).2.2.1 = some (ty0 k)) ∧ (∀ a, a < N → ∀ b, b < N → a ≠ b → (T a).2.1 ≠ (T b).2.1) ∧ (T k).2.2.2 = true ∧ (T k).1 = own ∧ parseFieldDescriptor (T k).2.2.1 = some ty
theorem zcell_eq {cA : ClassId} {n : Nat} {f g : Nat → Option Nat} (h : ∀ j, j < n → f j = g j) : vp_cell cA (n, .inr (.inr (.inr (.inr f)))) = vp_cell cA (n, .inr (.inr (.inr (.inr g)))) := by
  show arrV cA n (fun j => va_rf (f j)) = arrV cA n (fun j => va_rf (g j))
  unfold arrV
  congr 1
  apply Array.ext
  · simp
  · intro i h1 h2
    simp only [Array.size_ofFn] at h1
    simp [h i h1]
section CTS
variable {p : Program} {l : Launch} {e : Env} {R : Room} {s : State} {m : MethodId} {args : Array Value} {below : List Frame} {meth : Method} {c : Code} {D : va_G} {tA : Nat → ClassId} {nL : Nat} {A : Nat → Prop} {Qc : Array Value → State → Outcome → State → Prop} {mc ms cells slots pc fr lo : Nat} {lv lv' : List (Nat × Value)} {st : List Value} {ws ws' : va_W} {own : String} {cc : ByteArray}
theorem c_iconst (C : CC p R s m args meth c D tA A own cc nL fr lo mc ms) {n : Int} {v : Int32} (hd : decode cc pc = .ok (.iconst n, 1)) (hv : Int32.ofInt n = v) (k : GC p l e R s m args below meth c D nL A Qc mc ms cells slots (pc + 1) lv (.int v :: st) (ws)) : GC p l e R s m args below meth c D nL A Qc mc ms cells slots pc lv (st) (ws) := fun H locs ls hP hD hS h0 => lv_iconst C.1 C.2.1 hd hv (k H locs ls hP hD hS h0)
theorem c_bipush (C : CC p R s m args meth c D tA A own cc nL fr lo mc ms) {n : Int} {v : Int32} (hd : decode cc pc = .ok (.bipush n, 2)) (hv : (Int8.ofInt n).toInt32 = v) (k : GC p l e R s m args below meth c D nL A Qc mc ms cells slots (pc + 2) lv (.int v :: st) (ws)) : GC p l e R s m args below meth c D nL A Qc mc ms cells slots pc lv (st) (ws) := fun H locs ls hP hD hS h0 => lv_bipush C.1 C.2.1 hd hv (k H locs ls hP hD hS h0)
theorem c_sipush (C : CC p R s m args meth c D tA A own cc nL fr lo mc ms) {n : Int} {v : Int32} (hd : decode cc pc = .ok (.sipush n, 3)) (hv : (Int16.ofInt n).toInt32 = v) (k : GC p l e R s m args below meth c D nL A Qc mc ms cells slots (pc + 3) lv (.int v :: st) (ws)) : GC p l e R s m args below meth c D nL A Qc mc ms cells slots pc lv (st) (ws) := fun H locs ls hP hD hS h0 => lv_sipush C.1 C.2.1 hd hv (k H locs ls hP hD hS h0)
theorem c_lconst (C : CC p R s m args meth c D tA A own cc nL fr lo mc ms) {n : Fin 2} {v : Int64} (hd : decode cc pc = .ok (.lconst n, 1)) (hv : Int64.ofNat (n : Nat) = v) (k : GC p l e R s m args below meth c D nL A Qc mc ms cells slots (pc + 1) lv (.long v :: st) (ws)) : GC p l e R s m args below meth c D nL A Qc mc ms cells slots pc lv (st) (ws) := fun H locs ls hP hD hS h0 => lv_lconst C.1 C.2.1 hd hv (k H locs ls hP hD hS h0)
theorem c_dup (C : CC p R s m args meth c D tA A own cc nL fr lo mc ms) {v : Value} (hd : decode cc pc = .ok (.dup, 1)) (hv : v.category = 1) (k : GC p l e R s m args below meth c D nL A Qc mc ms cells slots (pc + 1) lv (v :: v :: st) (ws)) : GC p l e R s m args below meth c D nL A Qc mc ms cells slots pc lv (v :: st) (ws) := fun H locs ls hP hD hS h0 => lv_dup C.1 C.2.1 hd hv (k H locs ls hP hD hS h0)
theorem c_iload_n (C : CC p R s m args meth c D tA A own cc nL fr lo mc ms) (k0 : Nat) {j : Fin 4} {i : Nat} {x : Int32} (hl : lv[k0]? = some (i, .int x)) (hd : decode cc pc = .ok (.iload_n j, 1)) (hi : (j : Nat) = i) (k : GC p l e R s m args below meth c D nL A Qc mc ms cells slots (pc + 1) lv (.int x :: st) (ws)) : GC p l e R s m args below meth c D nL A Qc mc ms cells slots pc lv (st) (ws) := fun H locs ls hP hD hS h0 => lv_iload_n C.1 C.2.1 hd hi (lv_at h0 k0 hl) (k H locs ls hP hD hS h0)
theorem c_aload_n (C : CC p R s m args meth c D tA A own cc nL fr lo mc ms) (k0 : Nat) {j : Fin 4} {i : Nat} {x : Nat} (hl : lv[k0]? = some (i, .ref x)) (hd : decode cc pc = .ok (.aload_n j, 1)) (hi : (j : Nat) = i) (k : GC p l e R s m args below meth c D nL A Qc mc ms cells slots (pc + 1) lv (.ref x :: st) (ws)) : GC p l e R s m args below meth c D nL A Qc mc ms cells slots pc lv (st) (ws) := fun H locs ls hP hD hS h0 => lv_aload_n C.1 C.2.1 hd hi (lv_at h0 k0 hl) (k H locs ls hP hD hS h0)
theorem c_istore_n (C : CC p R s m args meth c D tA A own cc nL fr lo mc ms) {j : Fin 4} {i : Nat} {x : Int32} (hd : decode cc pc = .ok (.istore_n j, 1)) (hi : (j : Nat) = i) (hn : i < nL) (hl : (i, Value.int x) :: lv.filter (fun q => !(q.1 == i) && !(q.1 + 1 == i && q.2.category == 2)) = lv') (k : GC p l e R s m args below meth c D nL A Qc mc ms cells slots (pc + 1) lv' (st) (ws)) : GC p l e R s m args below meth c D nL A Qc mc ms cells slots pc lv (.int x :: st) (ws) := fun H locs ls hP hD hS h0 => lv_istore_n C.1 C.2.1 hd hi h0 hn hl (fun ls2 h2 => k H locs ls2 hP hD hS h2)
theorem c_iinc (C : CC p R s m args meth c D tA A own cc nL fr lo mc ms) (k0 : Nat) {i : Nat} {n : Int} {x v : Int32} (hl0 : lv[k0]? = some (i, .int x)) (hd : decode cc pc = .ok (.iinc i n, 3)) (hv : x + Int32.ofInt n = v) (hn : i < nL) (hl : (i, Value.int v) :: lv.filter (fun q => !(q.1 == i) && !(q.1 + 1 == i && q.2.category == 2)) = lv') (k : GC p l e R s m args below meth c D nL A Qc mc ms cells slots (pc + 3) lv' (st) (ws)) : GC p l e R s m args below meth c D nL A Qc mc ms cells slots pc lv (st) (ws) := fun H locs ls hP hD hS h0 => lv_iinc C.1 C.2.1 hd h0 hl0 hv hn hl (fun ls2 h2 => k H locs ls2 hP hD hS h2)
theorem c_goto (C : CC p R s m args meth c D tA A own cc nL fr lo mc ms) {off : Int} {tgt : Nat} (hd : decode cc pc = .ok (.goto off, 3)) (ht : (pc : Int) + off = (tgt : Int)) (k : GC p l e R s m args below meth c D nL A Qc mc ms cells slots tgt lv (st) (ws)) : GC p l e R s m args below meth c D nL A Qc mc ms cells slots pc lv (st) (ws) := fun H locs ls hP hD hS h0 => lv_goto C.1 C.2.1 hd ht (k H locs ls hP hD hS h0)
theorem c_ge1 (C : CC p R s m args meth c D tA A own cc nL fr lo mc ms) {x y : Int32} {off : Int} {tgt : Nat} (hd : decode cc pc = .ok (.if_icmp .ge off, 3)) (ht : (pc : Int) + off = (tgt : Int)) (hc : y ≤ x) (k : GC p l e R s m args below meth c D nL A Qc mc ms cells slots tgt lv (st) (ws)) : GC p l e R s m args below meth c D nL A Qc mc ms cells slots pc lv (.int y :: .int x :: st) (ws) := fun H locs ls hP hD hS h0 => lv_icmp_ge C.1 C.2.1 hd ht (fun _ => k H locs ls hP hD hS h0) (fun q => absurd hc q)
theorem c_ge0 (C : CC p R s m args meth c D tA A own cc nL fr lo mc ms) {x y : Int32} {off : Int} {tgt : Nat} (hd : decode cc pc = .ok (.if_icmp .ge off, 3)) (ht : (pc : Int) + off = (tgt : Int)) (hc : ¬ y ≤ x) (k : GC p l e R s m args below meth c D nL A Qc mc ms cells slots (pc + 3) lv (st) (ws)) : GC p l e R s m args below meth c D nL A Qc mc ms cells slots pc lv (.int y :: .int x :: st) (ws) := fun H locs ls hP hD hS h0 => lv_icmp_ge C.1 C.2.1 hd ht (fun q => absurd q hc) (fun _ => k H locs ls hP hD hS h0)
theorem c_obj (C : CC p R s m args meth c D tA A own cc nL fr lo mc ms) {a idx : Nat} (w1 : Cond.methodLink own idx objectInit ∈ wsG) (w2 : Cond.instanceMethod objectInit ∈ wsG) (w3 : Cond.code objectInit ⟨#[0xb1]⟩ 1 none ∈ wsG) (hfr : 1 ≤ fr) (hlo : 20 ≤ lo) (hst : (st.map fun v => v.category).sum ≤ 8) (hd : decode cc pc = .ok (.invokespecial idx, 3)) (k : GC p l e R s m args below meth c D nL A Qc mc ms cells slots (pc + 3) lv (st) (ws)) : GC p l e R s m args below meth c D nL A Qc mc ms cells slots pc lv (.ref a :: st) (ws) := fun H locs ls hP hD hS h0 => by
  have hfr2 : 1 ≤ R.frames := by rw [C.2.2.2.2.2.2.2.2.2.2.1]; exact hfr
  have hlo2 : 2 * (F0 m pc ls (.ref a :: st)).monitorRoom + (st.map fun v => v.category).sum + 12 ≤ R.locals := by
    rw [C.2.2.2.2.2.2.2.2.2.2.2.1]
    have := lv_room (m := m) (pc := pc) (ls := ls) (rest := (.ref a :: st)) hst
    omega
  refine W.objInit C.1 C.2.1 C.2.2.2.1 (C.2.2.2.2.1 _ w1) (C.2.2.2.2.1 _ w2) (C.2.2.2.2.1 _ w3) rfl (by rw [C.2.2.1]; exact h0.1) rfl hd hfr2 hlo2 ?_
  exact k H locs ls hP hD hS h0
theorem c_putF (C : CC p R s m args meth c D tA A own cc nL fr lo mc ms) {a q0 ci idx : Nat} {fs : List Value} (hw : ws[q0]? = some (a, .inr (ci, fs))) (k : Nat) {ty : FieldType} (hf : FPF own idx ci k ty) {v : Value} (hn : narrow ty v = v) (hfit : fits ty v = true) (hlen : k < fs.length) (hw2 : ws.set q0 (a, .inr (ci, fs.set k v)) = ws') (hd : decode cc pc = .ok (.putfield idx, 3)) (kk : GC p l e R s m args below meth c D nL A Qc mc ms cells slots (pc + 3) lv (st) (ws')) : GC p l e R s m args below meth c D nL A Qc mc ms cells slots pc lv (v :: .ref a :: st) (ws) := fun H locs ls hP hD hS h0 => by
  obtain ⟨Cn, T, N, ty0, hc, hk, hin, hl, ht0, hnm, hfin, hdcl, hty⟩ := hf
  subst hw2
  exact va_putF (D := D) C.1 C.2.1 C.2.2.2.2.1 hin ty0 ht0 hnm C.2.2.2.1 C.2.2.2.2.2.2.2.2.1.1 hP hD hS q0 hw hc k hk (C.2.2.2.2.1 _ hl) (fun _ h9 => h9) hfin C.2.2.2.2.2.2.2.1 hdcl hty hn hfit hlen hd (fun H1 locs1 hP1 hD1 hS1 => kk H1 locs1 ls hP1 hD1 hS1 h0)
theorem c_put (C : CC p R s m args meth c D tA A own cc nL fr lo mc ms) {a q0 ci idx : Nat} {fs : List Value} (hw : ws[q0]? = some (a, .inr (ci, fs))) (k : Nat) {ty : FieldType} (hf : FP own idx ci k ty) {v : Value} (hn : narrow ty v = v) (hfit : fits ty v = true) (hlen : k < fs.length) (hw2 : ws.set q0 (a, .inr (ci, fs.set k v)) = ws') (hd : decode cc pc = .ok (.putfield idx, 3)) (kk : GC p l e R s m args below meth c D nL A Qc mc ms cells slots (pc + 3) lv (st) (ws')) : GC p l e R s m args below meth c D nL A Qc mc ms cells slots pc lv (v :: .ref a :: st) (ws) := fun H locs ls hP hD hS h0 => by
  obtain ⟨Cn, T, N, ty0, hc, hk, hin, hl, ht0, hnm, hfin, hty⟩ := hf
  subst hw2
  exact va_put (D := D) C.1 C.2.1 C.2.2.2.2.1 hin ty0 ht0 hnm C.2.2.2.1 C.2.2.2.2.2.2.2.2.1.1 hP hD hS q0 hw hc k hk (C.2.2.2.2.1 _ hl) (fun _ h9 => h9) hfin hty hn hfit hlen hd (fun H1 locs1 hP1 hD1 hS1 => kk H1 locs1 ls hP1 hD1 hS1 h0)
theorem c_get (C : CC p R s m args meth c D tA A own cc nL fr lo mc ms) {a q0 ci idx : Nat} {fs : List Value} (hw : ws[q0]? = some (a, .inr (ci, fs))) (k : Nat) (hf : FL own idx ci k) {v : Value} (hv : fs[k]? = some v) (hd : decode cc pc = .ok (.getfield idx, 3)) (kk : GC p l e R s m args below meth c D nL A Qc mc ms cells slots (pc + 3) lv (v :: st) (ws)) : GC p l e R s m args below meth c D nL A Qc mc ms cells slots pc lv (.ref a :: st) (ws) := fun H locs ls hP hD hS h0 => by
  obtain ⟨Cn, T, N, hc, hk, hin, hl⟩ := hf
  exact va_get (D := D) C.1 C.2.1 C.2.2.2.2.1 hin C.2.2.2.1 C.2.2.2.2.2.2.2.2.1.1 hP q0 hw hc k hk (C.2.2.2.2.1 _ hl) (fun _ h9 => h9) hv hd (kk H locs ls hP hD hS h0)
theorem c_new (C : CC p R s m args meth c D tA A own cc nL fr lo mc ms) {idx ci N : Nat} {Cn : String} {T : u_T} {fs : List Value} (ty : Nat → FieldType) (hty : ∀ k, k < N → parseFieldDescriptor (T k).2.2.1 = some (ty k)) (hin : ∀ x ∈ u_ws Cn T N, x ∈ wsG) (w1 : Cond.classLink own idx Cn ∈ wsG) (w2 : Cond.instantiable Cn N ∈ wsG) (w3 : Cond.initialized Cn ∈ wsG) (hc : vwCl[ci]? = some (Cn, T, N)) (hfs : ∀ j, j < N → defaultValue (ty j) = vp_V fs j) (hcl : cells + 1 ≤ mc) (hsl : slots + N ≤ ms) (hd : decode cc pc = .ok (.new idx, 3)) (k : ∀ q, GC p l e R s m args below meth c D nL A Qc mc ms (cells + 1) (slots + N) (pc + 3) lv (.ref q :: st) (ws ++ [(q, .inr (ci, fs))])) : GC p l e R s m args below meth c D nL A Qc mc ms cells slots pc lv (st) (ws) := fun H locs ls hP hD hS h0 => va_new (D := D) C.1 C.2.1 C.2.2.2.2.1 hin ty hty C.2.2.2.1 (C.2.2.2.2.1 _ w1) (C.2.2.2.2.1 _ w2) (C.2.2.2.2.1 _ w3) C.2.2.2.2.2.2.2.2.1.1 hP hD hS C.2.2.2.2.2.2.2.2.2.1 hc hfs (by rw [C.2.2.2.2.2.2.2.2.2.2.2.2.1]; exact hcl) (by rw [C.2.2.2.2.2.2.2.2.2.2.2.2.2]; exact hsl) hd (fun q H1 hP1 hD1 hS1 => k q H1 locs ls hP1 hD1 hS1 h0)
theorem c_newi (C : CC p R s m args meth c D tA A own cc nL fr lo mc ms) {N' : Nat} {n : Int32} (w1 : Cond.arrayClass .int ∈ wsG) (hn : ¬ n < 0) (hN : n.toNatClampNeg = N') (hb : N' * componentBytes .int ≤ 536870912) (hcl : cells + 1 ≤ mc) (hsl : slots + N' ≤ ms) (hd : decode cc pc = .ok (.newarray .int, 2)) (k : ∀ q, GC p l e R s m args below meth c D nL A Qc mc ms (cells + 1) (slots + N') (pc + 2) lv (.ref q :: st) (ws ++ [(q, .inl (tA 0, N', .inl (fun _ => 0)))])) : GC p l e R s m args below meth c D nL A Qc mc ms cells slots pc lv (.int n :: st) (ws) := fun H locs ls hP hD hS h0 => by
  refine va_newa (D := D) (atype := .int) (ty := .int) (a0 := (N', .inl (fun _ => 0))) C.1 C.2.1 (C.2.2.2.2.1 _ w1) rfl C.2.2.2.2.2.2.2.2.1.1 hP hD hS C.2.2.2.2.2.2.2.2.2.1 (fun _ => rfl) hn hN hb (by rw [C.2.2.2.2.2.2.2.2.2.2.2.2.1]; exact hcl) (by rw [C.2.2.2.2.2.2.2.2.2.2.2.2.2]; exact hsl) hd (fun q cA H1 hK1 hP1 hD1 hS1 => ?_)
  have e1 : s.vm.findClass ("[" ++ FieldType.toString .int) = some cA := (hK1.2 (tyL tA).length (cA, .int) (by rw [List.getElem?_append_right (Nat.le_refl _), Nat.sub_self]; rfl)).2
  have e2 : s.vm.findClass ("[" ++ FieldType.toString .int) = some (tA 0) := (C.2.2.2.2.2.2.2.2.1.1.2 0 (tA 0, .int) rfl).2
  have e3 : cA = tA 0 := Option.some.inj (e1.symm.trans e2)
  subst e3
  exact k q H1 locs ls hP1 hD1 hS1 h0
theorem c_newb (C : CC p R s m args meth c D tA A own cc nL fr lo mc ms) {N' : Nat} {n : Int32} (w1 : Cond.arrayClass .byte ∈ wsG) (hn : ¬ n < 0) (hN : n.toNatClampNeg = N') (hb : N' * componentBytes .byte ≤ 536870912) (hcl : cells + 1 ≤ mc) (hsl : slots + N' ≤ ms) (hd : decode cc pc = .ok (.newarray .byte, 2)) (k : ∀ q, GC p l e R s m args below meth c D nL A Qc mc ms (cells + 1) (slots + N') (pc + 2) lv (.ref q :: st) (ws ++ [(q, .inl (tA 1, N', .inl (fun _ => 0)))])) : GC p l e R s m args below meth c D nL A Qc mc ms cells slots pc lv (.int n :: st) (ws) := fun H locs ls hP hD hS h0 => by
  refine va_newa (D := D) (atype := .byte) (ty := .byte) (a0 := (N', .inl (fun _ => 0))) C.1 C.2.1 (C.2.2.2.2.1 _ w1) rfl C.2.2.2.2.2.2.2.2.1.1 hP hD hS C.2.2.2.2.2.2.2.2.2.1 (fun _ => rfl) hn hN hb (by rw [C.2.2.2.2.2.2.2.2.2.2.2.2.1]; exact hcl) (by rw [C.2.2.2.2.2.2.2.2.2.2.2.2.2]; exact hsl) hd (fun q cA H1 hK1 hP1 hD1 hS1 => ?_)
  have e1 : s.vm.findClass ("[" ++ FieldType.toString .byte) = some cA := (hK1.2 (tyL tA).length (cA, .byte) (by rw [List.getElem?_append_right (Nat.le_refl _), Nat.sub_self]; rfl)).2
  have e2 : s.vm.findClass ("[" ++ FieldType.toString .byte) = some (tA 1) := (C.2.2.2.2.2.2.2.2.1.1.2 1 (tA 1, .byte) rfl).2
  have e3 : cA = tA 1 := Option.some.inj (e1.symm.trans e2)
  subst e3
  exact k q H1 locs ls hP1 hD1 hS1 h0
theorem c_newz (C : CC p R s m args meth c D tA A own cc nL fr lo mc ms) {N' : Nat} {n : Int32} (w1 : Cond.arrayClass .boolean ∈ wsG) (hn : ¬ n < 0) (hN : n.toNatClampNeg = N') (hb : N' * componentBytes .boolean ≤ 536870912) (hcl : cells + 1 ≤ mc) (hsl : slots + N' ≤ ms) (hd : decode cc pc = .ok (.newarray .boolean, 2)) (k : ∀ q, GC p l e R s m args below meth c D nL A Qc mc ms (cells + 1) (slots + N') (pc + 2) lv (.ref q :: st) (ws ++ [(q, .inl (tA 2, N', .inl (fun _ => 0)))])) : GC p l e R s m args below meth c D nL A Qc mc ms cells slots pc lv (.int n :: st) (ws) := fun H locs ls hP hD hS h0 => by
  refine va_newa (D := D) (atype := .boolean) (ty := .boolean) (a0 := (N', .inl (fun _ => 0))) C.1 C.2.1 (C.2.2.2.2.1 _ w1) rfl C.2.2.2.2.2.2.2.2.1.1 hP hD hS C.2.2.2.2.2.2.2.2.2.1 (fun _ => rfl) hn hN hb (by rw [C.2.2.2.2.2.2.2.2.2.2.2.2.1]; exact hcl) (by rw [C.2.2.2.2.2.2.2.2.2.2.2.2.2]; exact hsl) hd (fun q cA H1 hK1 hP1 hD1 hS1 => ?_)
  have e1 : s.vm.findClass ("[" ++ FieldType.toString .boolean) = some cA := (hK1.2 (tyL tA).length (cA, .boolean) (by rw [List.getElem?_append_right (Nat.le_refl _), Nat.sub_self]; rfl)).2
  have e2 : s.vm.findClass ("[" ++ FieldType.toString .boolean) = some (tA 2) := (C.2.2.2.2.2.2.2.2.1.1.2 2 (tA 2, .boolean) rfl).2
  have e3 : cA = tA 2 := Option.some.inj (e1.symm.trans e2)
  subst e3
  exact k q H1 locs ls hP1 hD1 hS1 h0
theorem c_newq (C : CC p R s m args meth c D tA A own cc nL fr lo mc ms) {N' idx t : Nat} {n : Int32} {Cn : String} (w1 : Cond.classLink own idx Cn ∈ wsG) (hAO : va_AO Cn s) (ht : (tyL tA)[t]? = some (tA t, .object Cn)) (hn : ¬ n < 0) (hN : n.toNatClampNeg = N') (hb : N' * 4 ≤ 536870912) (hcl : cells + 1 ≤ mc) (hsl : slots + N' ≤ ms) (hd : decode cc pc = .ok (.anewarray idx, 3)) (k : ∀ q, GC p l e R s m args below meth c D nL A Qc mc ms (cells + 1) (slots + N') (pc + 3) lv (.ref q :: st) (ws ++ [(q, .inl (tA t, N', .inr (.inr (.inr (.inr (fun _ => none))))))])) : GC p l e R s m args below meth c D nL A Qc mc ms cells slots pc lv (.int n :: st) (ws) := fun H locs ls hP hD hS h0 => by
  refine va_newq (D := D) C.1 C.2.1 C.2.2.2.1 (C.2.2.2.2.1 _ w1) hAO C.2.2.2.2.2.2.2.2.1.1 hP hD hS C.2.2.2.2.2.2.2.2.2.1 hn hN hb (by rw [C.2.2.2.2.2.2.2.2.2.2.2.2.1]; exact hcl) (by rw [C.2.2.2.2.2.2.2.2.2.2.2.2.2]; exact hsl) hd (fun q cA H1 hK1 hP1 hD1 hS1 => ?_)
  obtain ⟨kA, comp, -, -, -, e1⟩ := (hK1.2 (tyL tA).length (cA, .object Cn) (by rw [List.getElem?_append_right (Nat.le_refl _), Nat.sub_self]; rfl)).2
  obtain ⟨kB, comp2, -, -, -, e2⟩ := (C.2.2.2.2.2.2.2.2.1.1.2 t (tA t, .object Cn) ht).2
  have e3 : cA = tA t := Option.some.inj (e1.symm.trans e2)
  subst e3
  exact k q H1 locs ls hP1 hD1 hS1 h0
theorem c_astq (C : CC p R s m args meth c D tA A own cc nL fr lo mc ms) {a q0 t qk ci : Nat} {r : vw_C} {n v : Nat} {vs : List Value} {f : Nat → Option Nat} {i : Int32} (ha : ws[q0]? = some (a, .inl (tA t, n, .inr (.inr (.inr (.inr f)))))) (ht : (tyL tA)[t]? = some (tA t, .object r.1)) (hv : ws[qk]? = some (v, .inr (ci, vs))) (hc : vwCl[ci]? = some r) (hin : vp_in i n) (hw2 : ws.set q0 (a, .inl (tA t, n, .inr (.inr (.inr (.inr (va_up f i.toNatClampNeg (some v))))))) = ws') (hd : decode cc pc = .ok (.aastore, 1)) (k : GC p l e R s m args below meth c D nL A Qc mc ms cells slots (pc + 1) lv (st) (ws')) : GC p l e R s m args below meth c D nL A Qc mc ms cells slots pc lv (.ref v :: .int i :: .ref a :: st) (ws) := fun H locs ls hP hD hS h0 => by
  subst hw2
  exact va_astq (D := D) C.1 C.2.1 C.2.2.2.2.2.2.2.2.1.1 hP hD hS q0 t qk ci ha ht hv hc hin hd (fun H1 locs1 hP1 hD1 hS1 => k H1 locs1 ls hP1 hD1 hS1 h0)
theorem c_iast (C : CC p R s m args meth c D tA A own cc nL fr lo mc ms) {a q0 n : Nat} {f : Nat → Int32} {i x : Int32} (ha : ws[q0]? = some (a, .inl (tA 0, n, .inl f))) (hin : vp_in i n) (hw2 : ws.set q0 (a, .inl (tA 0, n, .inl (upd f i.toNatClampNeg x))) = ws') (hd : decode cc pc = .ok (.iastore, 1)) (k : GC p l e R s m args below meth c D nL A Qc mc ms cells slots (pc + 1) lv (st) (ws')) : GC p l e R s m args below meth c D nL A Qc mc ms cells slots pc lv (.int x :: .int i :: .ref a :: st) (ws) := fun H locs ls hP hD hS h0 => by
  subst hw2
  exact va_iast (D := D) C.1 C.2.1 C.2.2.2.2.2.2.2.2.1.1 hP hD hS q0 0 ha rfl hin hd (fun H1 locs1 hP1 hD1 hS1 => k H1 locs1 ls hP1 hD1 hS1 h0)
theorem c_refs {a q0 t n : Nat} {f g : Nat → Option Nat} (ha : ws[q0]? = some (a, .inl (tA t, n, .inr (.inr (.inr (.inr f)))))) (hfg : ∀ j, j < n → f j = g j) (hw2 : ws.set q0 (a, .inl (tA t, n, .inr (.inr (.inr (.inr g))))) = ws') (k : GC p l e R s m args below meth c D nL A Qc mc ms cells slots pc lv (st) (ws')) : GC p l e R s m args below meth c D nL A Qc mc ms cells slots pc lv (st) (ws) := fun H locs ls hP hD hS h0 => by
  subst hw2
  refine k H locs ls (fun j x hx => ?_) (hD.set ha) hS h0
  by_cases e : q0 = j
  · subst e
    have hlt : q0 < ws.length := (List.getElem?_eq_some_iff.mp ha).1
    rw [List.getElem?_set_self hlt] at hx
    cases hx
    have h1 : H[a]? = some (vp_cell (tA t) (n, .inr (.inr (.inr (.inr f))))) := hP q0 _ ha
    show H[a]? = some (vp_cell (tA t) (n, .inr (.inr (.inr (.inr g)))))
    rw [← zcell_eq hfg]
    exact h1
  · rw [List.getElem?_set_ne e] at hx
    exact hP j x hx
theorem c_mna (C : CC p R s m args meth c D tA A own cc nL fr lo mc ms) {N' K' idx t t0 : Nat} {n k0 : Int32} {ty : FieldType} (w1 : Cond.classLink own idx ("[" ++ (FieldType.array ty).toString) ∈ wsG) (w2 : Cond.arrayClass ty ∈ wsG) (hAO : va_AOA ty s) (ht : (tyL tA)[t]? = some (tA t, .array ty)) (hf0 : s.vm.findClass (FieldType.array ty).toString = some (tA t0)) (hfA : s.vm.findClass ("[" ++ (FieldType.array ty).toString) = some (tA t)) (hn : ¬ n < 0) (hk : ¬ k0 < 0) (hN : n.toNatClampNeg = N') (hM : k0.toNatClampNeg = K') (hb1 : N' * 4 ≤ 536870912) (hb2 : K' * componentBytes ty ≤ 536870912) (hb3 : K' ≤ 536870912) (hdf : fits ty (defaultValue ty) = true) (hdd : (defaultValue ty).isDefault = true) (hz : ∀ c : ClassId, mz_row c K' (defaultValue ty) = vp_cell c (K', .inl (fun _ => 0))) (hcl : cells + (1 + N') ≤ mc) (hsl : slots + (N' + N' * K') ≤ ms) (hd : decode cc pc = .ok (.multianewarray idx 2, 4)) (k : ∀ (q : Nat) (r : Nat → Nat), GC p l e R s m args below meth c D nL A Qc mc ms (cells + 1 + N') (slots + N' + N' * K') (pc + 4) lv (.ref q :: st) ((ws ++ [(q, .inl (tA t, N', .inr (.inr (.inr (.inr (fun i => if i < N' then some (r i) else none))))))]) ++ (List.range N').map (fun i => (r i, .inl (tA t0, K', .inl (fun _ => 0)))))) : GC p l e R s m args below meth c D nL A Qc mc ms cells slots pc lv (.int k0 :: .int n :: st) (ws) := fun H locs ls hP hD hS h0 => by
  refine va_mna (D := D) (X := ws) (L := []) (f := fun _ => .inr (0, [])) (ty := ty) (cy := tA t0) (z := (K', .inl (fun _ => 0))) C.1 C.2.1 C.2.2.2.1 (C.2.2.2.2.1 _ w1) hAO (C.2.2.2.2.1 _ w2) hf0 C.2.2.2.2.2.2.2.2.1.1 (by rw [show va_pl [] (fun _ => Sum.inr (0, [])) = [] from rfl, List.append_nil]; exact hP) (by rw [show va_pl [] (fun _ => Sum.inr (0, [])) = [] from rfl, List.append_nil]; exact hD) hS C.2.2.2.2.2.2.2.2.2.1 hn hk hN hM hb1 hb2 hb3 hdf hdd (by rw [C.2.2.2.2.2.2.2.2.2.2.2.2.1]; exact hcl) (by rw [C.2.2.2.2.2.2.2.2.2.2.2.2.2]; exact hsl) hz hd (fun q r cA H1 _ _ hK1 hP1 hD1 hS1 => ?_)
  have e1 : s.vm.findClass ("[" ++ (FieldType.array ty).toString) = some cA := (hK1.2 (tyL tA).length (cA, .array ty) (by rw [List.getElem?_append_right (Nat.le_refl _), Nat.sub_self]; rfl)).2
  have e3 : cA = tA t := Option.some.inj (e1.symm.trans hfA)
  subst e3
  have e4 : va_pl ([] ++ (List.range N').map r) (vr_up (fun _ => Sum.inr (0, [])) ((List.range N').map r) (.inl (tA t0, (K', .inl (fun _ => 0))))) = (List.range N').map (fun i => (r i, .inl (tA t0, K', .inl (fun _ => 0)))) := by
    rw [List.nil_append]
    unfold va_pl
    rw [List.map_map]
    apply List.map_congr_left
    intro i hi
    show (r i, vr_up _ _ _ (r i)) = _
    rw [vr_up_in (List.mem_map_of_mem hi)]
  rw [e4] at hP1 hD1
  exact k q r H1 locs ls hP1 hD1 hS1 h0
theorem c_ws (hw : ws = ws') (k : GC p l e R s m args below meth c D nL A Qc mc ms cells slots pc lv st ws') : GC p l e R s m args below meth c D nL A Qc mc ms cells slots pc lv st ws := hw ▸ k
theorem c_join {H H1 : Heap} {q : Nat} {e0 : va_E} {nc : va_W} (hP : va_P D vwCl (ws ++ [(q, e0)]) H) (hD : va_D A (ws ++ [(q, e0)])) (hk : ∀ x : Nat, x < H.size → ¬ va_A [(q, e0)] H.size x → H1[x]? = H[x]?) (hA : ∀ x, va_A [(q, e0)] H.size x → A x) (hP1 : va_P D vwCl nc H1) (hD1 : va_D (va_A [(q, e0)] H.size) nc) : va_P D vwCl (ws ++ nc) H1 ∧ va_D A (ws ++ nc) := by
  have apart : ∀ (k : Nat) (x : Nat × va_E), ws[k]? = some x → x.1 < H.size ∧ ¬ va_A [(q, e0)] H.size x.1 := by
    intro k x hx
    have hlt : k < ws.length := (List.getElem?_eq_some_iff.mp hx).1
    have hx2 : (ws ++ [(q, e0)])[k]? = some x := by rw [List.getElem?_append_left hlt]; exact hx
    have hl : x.1 < H.size := (hP k x hx2).lt
    refine ⟨hl, fun h => ?_⟩
    rcases h with ⟨k2, e2, h⟩ | h
    · have h0 : k2 < 1 := (List.getElem?_eq_some_iff.mp h).1
      rw [show k2 = 0 by omega] at h
      have hq : (q, e0) = (x.1, e2) := Option.some.inj h
      have hq1 : q = x.1 := (Prod.mk.inj hq).1
      have hl2 : (ws ++ [(q, e0)])[ws.length]? = some (q, e0) := by rw [List.getElem?_append_right (Nat.le_refl _), Nat.sub_self]; rfl
      have := hD.1 k ws.length x (q, e0) hx2 hl2 hq1.symm
      omega
    · omega
  refine ⟨va_P.app (fun k x hx => ?_) hP1, va_D.app ⟨fun i j x y hx hy hxy => ?_, fun k x hx => ?_⟩ (hD1.weaken (fun k x _ h => hA x.1 h)) (fun i j x y hx hy hxy => ?_)⟩
  · have hlt : k < ws.length := (List.getElem?_eq_some_iff.mp hx).1
    obtain ⟨g1, g2⟩ := apart k x hx
    exact (hP k x (by rw [List.getElem?_append_left hlt]; exact hx)).kept (hk x.1 g1 g2)
  · exact hD.1 i j x y (by rw [List.getElem?_append_left (List.getElem?_eq_some_iff.mp hx).1]; exact hx) (by rw [List.getElem?_append_left (List.getElem?_eq_some_iff.mp hy).1]; exact hy) hxy
  · exact hD.2 k x (by rw [List.getElem?_append_left (List.getElem?_eq_some_iff.mp hx).1]; exact hx)
  · exact (apart i x hx).2 (by rw [hxy]; exact hD1.2 j y hy)
theorem c_sub {H : Heap} {q : Nat} {e0 : va_E} (hP : va_P D vwCl (ws ++ [(q, e0)]) H) : va_P D vwCl [(q, e0)] H := fun k x hx => by
  have h0 : k < 1 := (List.getElem?_eq_some_iff.mp hx).1
  rw [show k = 0 by omega] at hx
  exact hP ws.length x (by rw [List.getElem?_append_right (Nat.le_refl _), Nat.sub_self]; exact hx)
theorem c_free {H : Heap} {q : Nat} {e0 : va_E} {locs : List Loc} (C : CC p R s m args meth c D tA A own cc nL fr lo mc ms) (hD : va_D A (ws ++ [(q, e0)])) (hS : va_S A s.heap H locs) : ∀ x, va_A [(q, e0)] H.size x → A x := fun x h => by
  rcases h with ⟨k2, e2, h⟩ | h
  · have h0 : k2 < 1 := (List.getElem?_eq_some_iff.mp h).1
    rw [show k2 = 0 by omega] at h
    have hq : (q, e0) = (x, e2) := Option.some.inj h
    have hq1 : q = x := (Prod.mk.inj hq).1
    rw [← hq1]
    exact hD.2 ws.length (q, e0) (by rw [List.getElem?_append_right (Nat.le_refl _), Nat.sub_self]; rfl)
  · exact C.2.2.2.2.2.2.2.2.2.1 x (Nat.le_trans hS.1 h)
def PK (D : va_G) (tA : Nat → ClassId) (av : List Value) (sz q : Nat) (e0 : va_E) : Array Value → State → Prop := va_Pc av (fun U => U.heap.size = sz ∧ va_P D vwCl [(q, e0)] U.heap ∧ KC D tA U)
def QK (D : va_G) (sz q : Nat) (e0 : va_E) (g : (Nat → Nat) → va_W) : Array Value → State → Outcome → State → Prop := va_Qv (fun a : Nat → Nat => a 0 = q) (fun a t => va_P D vwCl (g a) t.heap ∧ va_D (va_A [(q, e0)] sz) (g a)) (va_A [(q, e0)] sz)
theorem PK.blind {av : List Value} {sz q : Nat} {e0 : va_E} : FrameBlind (PK D tA av sz q e0) := by
  intro a U g mk hq
  obtain ⟨h1, h2, h3, h4⟩ := hq
  exact ⟨h1, h2, h3, h4.same rfl⟩
theorem c_after {H : Heap} {locs : List Loc} {ls : Array Slot} {q mc1 ms1 : Nat} {e0 : va_E} {g : (Nat → Nat) → va_W} {av : Array Value} {st0 rest : List Value} (C : CC p R s m args meth c D tA A own cc nL fr lo mc ms) (hr : va_Run p l e R s m args below meth c H locs cells slots mc1 ms1 (F0 m pc ls st0) rest (QK D H.size q e0 g av) (va_A [(q, e0)] H.size)) (hP : va_P D vwCl (ws ++ [(q, e0)]) H) (hD : va_D A (ws ++ [(q, e0)])) (hS : va_S A s.heap H locs) (h0 : lv_has ls nL lv) (k : ∀ a, a 0 = q → GC p l e R s m args below meth c D nL A Qc mc ms (cells + mc1) (slots + ms1) (pc + 3) lv rest (ws ++ g a)) : W p l e R s m args below meth c H locs cells slots (MQ below Qc args s mc ms A) (F0 m pc ls st0) := by
  have hA := c_free C hD hS
  refine va_callv hr hS (fun q _ h => hA q h) hA (fun u t H1 locs1 ht hvm hw hB hz1 hk1 hS1 => ?_)
  obtain ⟨hP1, hD1⟩ := hB
  rw [ht] at hP1
  obtain ⟨hP2, hD2⟩ := c_join hP hD hk1 hA hP1 hD1
  exact k u hw H1 locs1 ls hP2 hD2 hS1 h0
def MK (own : String) (idx : Nat) (y : MethodName) (bytes : ByteArray) (maxL : Nat) : Prop := (own, idx, y) ∈ nestC ∧ Cond.instanceMethod y ∈ wsG ∧ Cond.initialized y.cls ∈ wsG ∧ Cond.code y bytes maxL none ∈ wsG ∧ y.name = "<init>" ∧ (y.cls ≠ "java/lang/invoke/MethodHandle" ∧ y.cls ≠ "java/lang/invoke/VarHandle" ∧ (parseMethodDescriptor y.desc).map (fun d => d.parameters.length) = some 0)
theorem c_init (C : CC p R s m args meth c D tA A own cc nL fr lo mc ms) {y : MethodName} {bytes : ByteArray} {maxL idx fr1 lo1 mc1 ms1 q : Nat} {e0 : va_E} {g : (Nat → Nat) → va_W} {rest : List Value} (hm : MK own idx y bytes maxL) (hM : ∀ sz, Met l y (Cond.code y bytes maxL none :: wsG) { frames := fr1, cells := mc1, slots := ms1, locals := lo1 } (PK D tA [.ref q] sz q e0) (QK D sz q e0 g) mc1 ms1 (va_A [(q, e0)] sz)) (hroom : fr1 + 1 ≤ fr ∧ 8 + (maxL + 11) + lo1 ≤ lo) (hcl : cells + mc1 ≤ mc ∧ slots + ms1 ≤ ms) (hw : (rest.map fun v => v.category).sum ≤ 8) (hd : decode cc pc = .ok (.invokespecial idx, 3)) (k : ∀ a, a 0 = q → GC p l e R s m args below meth c D nL A Qc mc ms (cells + mc1) (slots + ms1) (pc + 3) lv rest (ws ++ g a)) : GC p l e R s m args below meth c D nL A Qc mc ms cells slots pc lv (.ref q :: rest) (ws ++ [(q, e0)]) := fun H locs ls hP hD hS h0 => by
  obtain ⟨m1, m2, m4, m5, m7, m6⟩ := hm
  have hr := va_runIN (host := "SnowHouse") (R := R) (e := e) (below := below) (meth := meth) (locs := locs) (cells := cells) (slots := slots) (H := H) (g := F0 m pc ls (.ref q :: rest)) (rest := rest) (As := []) (b := q) ⟨C.1, C.2.1, C.2.2.1, C.2.2.2.1, C.2.2.2.2.1⟩ (hM H.size) ⟨va_cnB 0 C.2.2.2.2.1 (goodG m5) rfl rfl rfl (C.2.2.2.2.2.2.2.2.1.2.1 _ m1) (C.2.2.2.2.1 _ m4) m6 (by rw [C.2.2.2.2.2.2.2.2.2.2.1, C.2.2.2.2.2.2.2.2.2.2.2.1]; exact hroom), m7, C.2.2.2.2.1 _ m2⟩ ⟨PK.blind, fun U hU hW => ⟨rfl, by rw [hU], by rw [hU]; exact c_sub hP, C.2.2.2.2.2.2.2.2.1.go hW⟩⟩ rfl rfl h0.1 rfl (lv_room hw) hd (by rw [C.2.2.2.2.2.2.2.2.2.2.2.2.1, C.2.2.2.2.2.2.2.2.2.2.2.2.2]; exact hcl)
  exact c_after C hr hP hD hS h0 k
theorem c_stat (C : CC p R s m args meth c D tA A own cc nL fr lo mc ms) {y : MethodName} {bytes : ByteArray} {maxL idx fr1 lo1 q : Nat} {e0 : va_E} {g : (Nat → Nat) → va_W} {v : Value} {rest : List Value} (hm : MS own idx y bytes maxL none 2) (hM : ∀ sz, Met l y (Cond.code y bytes maxL none :: wsG) { frames := fr1, cells := 0, slots := 0, locals := lo1 } (PK D tA [.ref q, v] sz q e0) (QK D sz q e0 g) 0 0 (va_A [(q, e0)] sz)) (hroom : fr1 + 1 ≤ fr ∧ 8 + (maxL + 11) + lo1 ≤ lo) (hcl : cells ≤ mc ∧ slots ≤ ms) (hw : (rest.map fun v => v.category).sum ≤ 8) (hd : decode cc pc = .ok (.invokestatic idx, 3)) (k : ∀ a, a 0 = q → GC p l e R s m args below meth c D nL A Qc mc ms cells slots (pc + 3) lv rest (ws ++ g a)) : GC p l e R s m args below meth c D nL A Qc mc ms cells slots pc lv (v :: .ref q :: rest) (ws ++ [(q, e0)]) := fun H locs ls hP hD hS h0 => by
  obtain ⟨m1, m2, m4, m5, m6⟩ := hm
  have hr := va_runS (R := R) (e := e) (below := below) (meth := meth) (locs := locs) (cells := cells) (slots := slots) (H := H) (g := F0 m pc ls (v :: .ref q :: rest)) (rest := rest) (As := [.ref q, v]) ⟨C.1, C.2.1, C.2.2.1, C.2.2.2.1, C.2.2.2.2.1⟩ (hM H.size) ⟨callB_of 2 C.2.2.2.2.1 (goodG m5) rfl rfl rfl (C.2.2.2.2.1 _ m4) (C.2.2.2.2.1 _ m1) m6 (by rw [C.2.2.2.2.2.2.2.2.2.2.1, C.2.2.2.2.2.2.2.2.2.2.2.1]; exact hroom), C.2.2.2.2.1 _ m2⟩ ⟨PK.blind, fun U hU hW => ⟨rfl, by rw [hU], by rw [hU]; exact c_sub hP, C.2.2.2.2.2.2.2.2.1.go hW⟩⟩ rfl rfl h0.1 rfl (lv_room hw) hd (by rw [C.2.2.2.2.2.2.2.2.2.2.2.2.1, C.2.2.2.2.2.2.2.2.2.2.2.2.2]; exact hcl)
  exact c_after C hr hP hD hS h0 k
theorem c_ret {q : Nat} {e0 : va_E} {g : (Nat → Nat) → va_W} (C : CC p R s m args meth c D tA (va_A [(q, e0)] s.heap.size) own cc nL fr lo mc ms) (a : Nat → Nat) (ha : a 0 = q) (hw : ws = g a) (hd : decode cc pc = .ok (.return_, 1)) : GC p l e R s m args below meth c D nL (va_A [(q, e0)] s.heap.size) (QK D s.heap.size q e0 g) mc ms mc ms pc lv [] ws := fun H locs ls hP hD hS h0 => by
  subst hw
  exact W.vret C.1 C.2.1 C.2.2.2.2.2.1 (fun t ht hW => ⟨⟨a, rfl, ha, by rw [ht]; exact hP, hD⟩, hS.F ht⟩) hS.2.2 hd C.2.2.2.2.2.2.1
end CTS
theorem k_entry {l : Launch} {y : MethodName} {own : String} {cc : ByteArray} {nL fr lo mc ms q sz : Nat} {D : va_G} {tA : Nat → ClassId} {e0 : va_E} {g : (Nat → Nat) → va_W} (hpl : plainName y.cls = true) (hcls : y.cls = own) (hnm : y.name = "<init>") (hlen : 1 ≤ nL)
    (body : ∀ p e s m args below meth c, CC p (headSpec (Cond.code y cc nL none :: wsG) { frames := fr, cells := mc, slots := ms, locals := lo }).room s m args meth c D tA (va_A [(q, e0)] s.heap.size) own cc nL fr lo mc ms → GC p l e (headSpec (Cond.code y cc nL none :: wsG) { frames := fr, cells := mc, slots := ms, locals := lo }).room s m args below meth c D nL (va_A [(q, e0)] s.heap.size) (QK D s.heap.size q e0 g) mc ms 0 0 0 [(0, .ref q)] [] [(q, e0)]) :
    Met l y (Cond.code y cc nL none :: wsG) { frames := fr, cells := mc, slots := ms, locals := lo } (PK D tA [.ref q] sz q e0) (QK D sz q e0 g) mc ms (va_A [(q, e0)] sz) := by
  subst hcls
  refine Met.ofW (cc := cc) (maxL := nL) (ret := none) hpl rfl ?_
  intro p e s m args below meth c s₁ B hml hv
  obtain ⟨rfl, hsz, hP, hK⟩ := hv
  subst hsz
  have hts := atoms_spec (ws := Cond.code y cc nL none :: wsG) B.pre
  have hown : s.vm.findClass y.cls = some m.cls := findClass_of_methodNamed B.named
  have hin : meth.name = "<init>" := (name_of_methodNamed B.named B.method).1.trans hnm
  have C : CC p (headSpec (Cond.code y cc nL none :: wsG) { frames := fr, cells := mc, slots := ms, locals := lo }).room s m [Value.ref q].toArray meth c D tA (va_A [(q, e0)] s.heap.size) y.cls cc nL fr lo mc ms := ⟨B.exec, B.bytes, hml, hown, fun x hx => hts x (List.mem_cons_of_mem _ hx), B.returns, B.notSynchronized, hin, hK, fun _ h => Or.inr h, rfl, rfl, rfl, rfl⟩
  rw [lg_entry_eq]
  refine body p e s m [Value.ref q].toArray below meth c C s.heap [] _ hP ⟨fun i j x y hx hy _ => ?_, fun k x hx => Or.inl ⟨k, x.2, hx⟩⟩ va_S.rf (lv_entry [.ref q] hlen)
  have h1 : i < 1 := (List.getElem?_eq_some_iff.mp hx).1
  have h2 : j < 1 := (List.getElem?_eq_some_iff.mp hy).1
  omega
