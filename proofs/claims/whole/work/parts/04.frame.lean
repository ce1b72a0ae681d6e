section WTC
variable {p : Program} {l : Launch} {e : Env} {R : Room} {s : State} {m : MethodId} {args : Array Value} {below : List Frame} {meth : Method} {c : Code} {H : Heap} {locs : List Loc} {cells slots : Nat} {Q : State → Prop}
variable {cc : ByteArray} {pc : Nat} {ls : Array Slot} {rest : List Value} {D : va_G} {cl : List vw_C} {A : Nat → Prop} {a : Nat} {tys : List (ClassId × FieldType)} {ws : va_W}
theorem wt_copy (hexec : p.tables.exec = Jvm.exec) (hb : c.code = cc) (hml : c.maxLocals = ls.size) {own : String} {index : Nat} (hown : s.vm.findClass own = some m.cls) (hlink : (Cond.methodLink own index arraycopyName).before args s = true) (hnat : (Cond.native arraycopyName).before args s = true) (hstat : (Cond.static arraycopyName).before args s = true) (hini : (Cond.initialized "java/lang/System").before args s = true)
    (hK : va_K D cl tys s) (hP : va_P D cl ws H) (hD : va_D A ws) (hS : va_S A s.heap H locs) {b0 n0 : Nat} {f : Nat → Int32} (hX : va_T .int b0 n0 (fun j => .int (f j)) A s s.heap) (q1 t1 : Nat) {c1 : ClassId} {n1 : Nat} {g : Nat → Int32} (ha1 : ws[q1]? = some (a, .inl (c1, n1, .inl g))) (ht1 : tys[t1]? = some (c1, .int))
    {sp dp n : Int32} (h1 : ¬ sp < 0) (h2 : ¬ dp < 0) (h3 : ¬ n < 0) (h4 : sp.toNatClampNeg + n.toNatClampNeg ≤ n0) (h5 : dp.toNatClampNeg + n.toNatClampNeg ≤ n1) (hfit : ∀ i : Nat, i < n.toNatClampNeg → fits .int (.int (f (sp.toNatClampNeg + i))) = true)
    (hframes : 1 ≤ R.frames) (hlocals : (rest.map fun v => v.category).sum + (nativeFrameWords "java/lang/System" "arraycopy" 5 + 11) ≤ R.locals) (hdg : decode cc pc = .ok (.invokestatic index, 3))
    (kk : ∀ (H1 : Heap) (locs1 : List Loc), va_P D cl (ws.set q1 (a, .inl (c1, n1, .inl (va_cpy f g sp.toNatClampNeg dp.toNatClampNeg n.toNatClampNeg)))) H1 → va_D A (ws.set q1 (a, .inl (c1, n1, .inl (va_cpy f g sp.toNatClampNeg dp.toNatClampNeg n.toNatClampNeg)))) → va_S A s.heap H1 locs1 → W p l e R s m args below meth c H1 locs1 cells slots Q (F0 m (pc + 3) ls rest)) : W p l e R s m args below meth c H locs cells slots Q (F0 m pc ls (.int n :: .int dp :: .ref a :: .int sp :: .ref b0 :: rest)) := by
  have nn : ∀ z : Int32, ¬ z < 0 → z.toInt = (z.toNatClampNeg : Int) := by
    intro z hz
    have hz0 : (0 : Int) ≤ z.toInt := by
      have := Int32.not_lt.mp hz
      simpa using Int32.le_iff_toInt_le.mp this
    show z.toInt = ((z.toInt.toNat : Nat) : Int)
    omega
  intro T hT X
  obtain ⟨scr, hs1, hs2, hs3, hs4, -, hs5, hs7⟩ := hX
  have hc0 : H[b0]? = some scr := by rw [hS.2.1 b0 (Array.getElem?_eq_some_iff.mp hs1).1 hs7]; exact hs1
  have hc1 : H[a]? = some (vp_cell c1 (n1, .inl g)) := hP q1 _ ha1
  obtain ⟨hs6, k0, hk0, cm0, hkk0⟩ := hs2
  obtain ⟨-, k1, hk1, cm1, hkk1⟩ := (hK.2 t1 _ ht1).1 n1 (fun j => .int (g j))
  obtain ⟨vm', X', step⟩ := X.arraycopy hexec hown hlink hnat hstat hini (src := b0) (dst := a) (cs := scr) (cd := vp_cell c1 (n1, .inl g)) (srcPos := sp) (destPos := dp) (n := n) (by rw [hT]; exact hc0) (by rw [hT]; exact hc1)
    hs6 (fun _ h => by cases h) hs3 (fun h => by cases h) hk0 hk1 hkk0 hkk1 (by simp [refKind]) h1 h2 h3
    (by rw [nn sp h1, nn n h3]; omega)
    (by rw [nn dp h2, nn n h3]; show ¬ _ > ((arrV c1 n1 (fun j => .int (g j))).slots.size : Int); rw [arrV_size]; omega)
    (fun vm₁ _ i hi => by
      have e : scr.slots.getD (sp.toNatClampNeg + i) .null = .int (f (sp.toNatClampNeg + i)) := by
        rw [Array.getD_eq_getD_getElem?, hs5 _ (by omega)]
        rfl
      refine ⟨?_, ?_⟩
      · rw [e]
        exact hfit i hi
      · rw [e]
        exact trivial)
    (g := F0 m pc ls (.int n :: .int dp :: .ref a :: .int sp :: .ref b0 :: rest)) rfl (by rw [hml]) (rest := rest) rfl (by rw [hb]; exact hdg) hframes (by show 2 * 0 + _ + _ ≤ _; omega)
  have e1 : copied scr (vp_cell c1 (n1, .inl g)) sp dp n = vp_cell c1 (n1, .inl (va_cpy f g sp.toNatClampNeg dp.toNatClampNeg n.toNatClampNeg)) := va_copiedX (fun z => .int z) scr c1 f g hs5 h4
  rw [e1] at X' step
  have hl : a < H.size := (Array.getElem?_eq_some_iff.mp hc1).1
  have hheap : ((T.setVm vm').setCell a (vp_cell c1 (n1, .inl (va_cpy f g sp.toNatClampNeg dp.toNatClampNeg n.toNatClampNeg)))).heap = H.setIfInBounds a (vp_cell c1 (n1, .inl (va_cpy f g sp.toNatClampNeg dp.toNatClampNeg n.toNatClampNeg))) := by rw [← hT]; rfl
  have oq : ∀ q : Nat, q ≠ a → (H.setIfInBounds a (vp_cell c1 (n1, .inl (va_cpy f g sp.toNatClampNeg dp.toNatClampNeg n.toNatClampNeg))))[q]? = H[q]? := fun q hq => by simp [Array.getElem?_setIfInBounds, Ne.symm hq]
  obtain ⟨t, a1, b1⟩ := kk _ _ (hP.set hD ha1 (show (H.setIfInBounds a _)[a]? = some _ by simp [Array.getElem?_setIfInBounds, hl]) oq) (hD.set ha1) ⟨by simp; exact hS.1, fun q g1 g2 => by
      rw [oq q (fun e => g2 (by rw [e]; exact hD.2 q1 _ ha1))]
      exact hS.2.1 q g1 g2, fun q hq => by
      rcases List.mem_append.mp hq with h | h
      · exact hS.2.2 q h
      · obtain ⟨z, -, hz⟩ := List.mem_map.mp h
        rw [← hz]
        exact hD.2 q1 _ ha1⟩ _ hheap X'
  exact ⟨t, step t a1, b1⟩
end WTC
/-! ===== FRAME: the state is rows of ints (and of longs) by cell; the world is its 165 cells; GO is the walk ===== -/
abbrev TT : Type := (Nat → Nat → Int32) × (Nat → Nat → Int64)
abbrev WK : Type := va_G × (Nat → Nat) × (Nat → ClassId) × (Nat → Nat)
abbrev SH : Type := (Nat → Int32) → (Nat → Int64) → va_E
def wr (h : TT) (i k : Nat) (v : Int32) : TT := (fun a => if a = i then upd (h.1 i) k v else h.1 a, h.2)
def wrl (h : TT) (i k : Nat) (v : Int64) : TT := (h.1, fun a => if a = i then vp_updL (h.2 i) k v else h.2 a)
def wrow (h : TT) (i : Nat) (f : Nat → Int32) : TT := (fun a => if a = i then f else h.1 a, h.2)
def nm {α β : Type} (a : α) (f : α → β) : β := f a
def inb (i : Int32) (n : Nat) : Bool := decide (0 ≤ i) && decide (i.toNatClampNeg < n)
def isZ (v : Int32) : Bool := decide (v = 0) || decide (v = 1)
def isTx (j : Nat) : Bool := decide (10 ≤ j) && decide (j < 14)
def cpok (sp dp n : Int32) (n0 n1 : Nat) : Bool := decide (0 ≤ sp) && decide (0 ≤ dp) && decide (0 ≤ n) && decide (sp.toNatClampNeg + n.toNatClampNeg ≤ n0) && decide (dp.toNatClampNeg + n.toNatClampNeg ≤ n1)
def imax (x y : Int32) : Int32 := if x < y then y else x
def imin (x y : Int32) : Int32 := if y < x then y else x
def KF : Nat := 1000
theorem le_nlt {x : Int32} (h : 0 ≤ x) : ¬ x < 0 := fun q => by
  have h1 := Int32.le_iff_toInt_le.mp h
  have h2 := Int32.lt_iff_toInt_lt.mp q
  omega
theorem inb_in {i : Int32} {n : Nat} (h : inb i n = true) : vp_in i n := by
  unfold inb at h
  simp only [Bool.and_eq_true, decide_eq_true_eq] at h
  intro q
  rcases q with q | q
  · exact le_nlt h.1 q
  · omega
theorem isZ_nar {v : Int32} (h : isZ v = true) : narrow .boolean (.int v) = .int v := by
  unfold isZ at h
  simp only [Bool.or_eq_true, decide_eq_true_eq] at h
  rcases h with rfl | rfl <;> rfl
theorem isZ_fit {v : Int32} (h : isZ v = true) : fits .boolean (.int v) = true := by
  unfold isZ at h
  simp only [Bool.or_eq_true, decide_eq_true_eq] at h
  rcases h with rfl | rfl <;> rfl
/-! shapes -/
def sInt (tA : Nat → ClassId) (n : Nat) : SH := fun r _ => .inl (tA 0, n, .inl r)
def sByt (tA : Nat → ClassId) (n : Nat) : SH := fun r _ => .inl (tA 1, n, .inl r)
def sBoo (tA : Nat → ClassId) (n : Nat) : SH := fun r _ => .inl (tA 2, n, .inl r)
def sRef (tA : Nat → ClassId) (t n : Nat) (g : Nat → Nat) : SH := fun _ _ => .inl (tA t, n, .inr (.inr (.inr (.inr (fun j => some (g j))))))
def oSnow (ad : Nat → Nat) (o : Nat) : SH := fun r l => .inr (5, [.int (r 0), .ref (ad (o + 1))])
def oPlan (ad : Nat → Nat) (o : Nat) : SH := fun r l => .inr (3, [.int (r 0), .int (r 1), .int (r 2), .int (r 3), .ref (ad (o + 1)), .ref (ad (o + 2)), .ref (ad (o + 3))])
def oBuild (ad : Nat → Nat) (o : Nat) : SH := fun r l => .inr (0, [.int (r 0), .ref (ad (o + 1)), .ref (ad (o + 3)), .int (r 3), .int (r 4), .int (r 5), .int (r 6), .ref (ad (o + 7)), .ref (ad (o + 8)), .ref (ad (o + 9)), .ref (ad (o + 10)), .ref (ad (o + 11)), .ref (ad (o + 12)), .ref (ad (o + 13)), .ref (ad (o + 14)), .ref (ad (o + 15)), .ref (ad (o + 16))])
def oHouse (ad : Nat → Nat) : SH := fun r l => .inr (7, [.ref (ad (1)), .ref (ad (8)), .ref (ad (9)), .ref (ad (14)), .ref (ad (15)), .ref (ad (24)), .ref (ad (41)), .ref (ad (58)), .ref (ad (110)), .ref (ad (127)), .ref (ad (135)), .ref (ad (137)), .ref (ad (138)), .int (r 13), .long (l 14), .long (l 15), .int (r 16), .ref (ad (146))])
def oReader (ad : Nat → Nat) : SH := fun r l => .inr (4, [.ref (ad (128)), .ref (ad (130)), .int (r 2), .ref (ad (r 3).toNatClampNeg), .int (r 4), .int (r 5), .int (r 6)])
def oIndoors (ad : Nat → Nat) : SH := fun r l => .inr (2, [.ref (ad (136)), .int (r 1), .int (r 2), .int (r 3), .int (r 4), .int (r 5), .int (r 6)])
def oWall (ad : Nat → Nat) : SH := fun r l => .inr (6, [.int (r 0)])
def oFeast (ad : Nat → Nat) : SH := fun r l => .inr (1, [.ref (ad (139)), .ref (ad (145))])
def oModel (ad : Nat → Nat) : SH := fun r l => .inr (8, [.int (r 0), .ref (ad (148)), .int (r 2), .long (l 3), .long (l 4), .ref (ad (149)), .ref (ad (150)), .ref (ad (151)), .ref (ad (152)), .ref (ad (153)), .ref (ad (154)), .ref (ad (155)), .ref (ad (156)), .ref (ad (157)), .int (r 14), .int (r 15), .int (r 16), .int (r 17), .ref (ad (158)), .ref (ad (159)), .ref (ad (160)), .ref (ad (161)), .int (r 22), .ref (ad (162)), .ref (ad (163)), .ref (ad (164)), .int (r 26), .int (r 27), .long (l 28)])
def shL (ad : Nat → Nat) (tA : Nat → ClassId) : List SH := [oHouse ad, sRef tA 3 6 (fun j => ad (2 + j)), sInt tA 60, sInt tA 60, sInt tA 60, sInt tA 60, sInt tA 60, sInt tA 60, sInt tA 6, sRef tA 4 4 (fun j => ad (10 + j)), sByt tA 80, sByt tA 80, sByt tA 80, sByt tA 80, sInt tA 4, sRef tA 5 4 (fun j => ad (16 + 2 * j)), oSnow ad 16, sInt tA 4, oSnow ad 18, sInt tA 4, oSnow ad 20, sInt tA 4, oSnow ad 22, sInt tA 4, sRef tA 6 4 (fun j => ad (25 + 4 * j)), oPlan ad 25, sInt tA 8, sInt tA 8, sInt tA 8, oPlan ad 29, sInt tA 8, sInt tA 8, sInt tA 8, oPlan ad 33, sInt tA 8, sInt tA 8, sInt tA 8, oPlan ad 37, sInt tA 8, sInt tA 8, sInt tA 8, oBuild ad 41, oSnow ad 42, sInt tA 4, oPlan ad 44, sInt tA 8, sInt tA 8, sInt tA 8, sInt tA 60, sInt tA 60, sInt tA 60, sInt tA 8, sInt tA 8, sInt tA 60, sInt tA 60, sInt tA 60, sInt tA 60, sInt tA 60, sRef tA 7 3 (fun j => ad (59 + 17 * j)), oBuild ad 59, oSnow ad 60, sInt tA 4, oPlan ad 62, sInt tA 8, sInt tA 8, sInt tA 8, sInt tA 60, sInt tA 60, sInt tA 60, sInt tA 8, sInt tA 8, sInt tA 60, sInt tA 60, sInt tA 60, sInt tA 60, sInt tA 60, oBuild ad 76, oSnow ad 77, sInt tA 4, oPlan ad 79, sInt tA 8, sInt tA 8, sInt tA 8, sInt tA 60, sInt tA 60, sInt tA 60, sInt tA 8, sInt tA 8, sInt tA 60, sInt tA 60, sInt tA 60, sInt tA 60, sInt tA 60, oBuild ad 93, oSnow ad 94, sInt tA 4, oPlan ad 96, sInt tA 8, sInt tA 8, sInt tA 8, sInt tA 60, sInt tA 60, sInt tA 60, sInt tA 8, sInt tA 8, sInt tA 60, sInt tA 60, sInt tA 60, sInt tA 60, sInt tA 60, oBuild ad 110, oSnow ad 111, sInt tA 4, oPlan ad 113, sInt tA 8, sInt tA 8, sInt tA 8, sInt tA 60, sInt tA 60, sInt tA 60, sInt tA 8, sInt tA 8, sInt tA 60, sInt tA 60, sInt tA 60, sInt tA 60, sInt tA 60, oReader ad, oSnow ad 128, sInt tA 4, oPlan ad 130, sInt tA 8, sInt tA 8, sInt tA 8, sByt tA 0, oIndoors ad, sInt tA 6, oWall ad, oFeast ad, sRef tA 3 5 (fun j => ad (140 + j)), sInt tA 41, sInt tA 41, sInt tA 41, sInt tA 41, sInt tA 41, sInt tA 4, sInt tA 6, oModel ad, sInt tA 6, sInt tA 6, sInt tA 360, sInt tA 60, sInt tA 4, sByt tA 320, sBoo tA 4, sInt tA 16, sBoo tA 4, sInt tA 104, sInt tA 4, sInt tA 26, sBoo tA 4, sInt tA 760, sInt tA 205, sBoo tA 4, sInt tA 6]
def sh (w : WK) (i : Nat) : SH := (shL w.2.1 w.2.2.1).getD i (fun _ _ => .inr (0, []))
def wl (w : WK) (h : TT) : va_W := (List.range 165).map (fun i => (w.2.1 i, sh w i (h.1 i) (h.2 i)))
theorem wl_at {w : WK} {h : TT} {i : Nat} (hi : i < 165) : (wl w h)[i]? = some (w.2.1 i, sh w i (h.1 i) (h.2 i)) := by
  unfold wl
  rw [List.getElem?_map, List.getElem?_range hi]
  rfl
theorem wl_no {w : WK} {h : TT} {i : Nat} (hi : ¬ i < 165) : (wl w h)[i]? = none := by
  apply List.getElem?_eq_none
  unfold wl
  rw [List.length_map, List.length_range]
  omega
theorem wl_lt {w : WK} {h : TT} {i : Nat} {q : Nat × va_E} (hq : (wl w h)[i]? = some q) : i < 165 := by
  by_cases hi : i < 165
  · exact hi
  · rw [wl_no hi] at hq
    cases hq
theorem wl_len {w : WK} {h : TT} : (wl w h).length = 165 := by
  unfold wl
  rw [List.length_map, List.length_range]
theorem wl_set {w : WK} {h h' : TT} {i : Nat} {r : Nat → Int32} {l : Nat → Int64} (hi : i < 165) (h1 : ∀ a, h'.1 a = if a = i then r else h.1 a) (h2 : ∀ a, h'.2 a = if a = i then l else h.2 a) : (wl w h).set i (w.2.1 i, sh w i r l) = wl w h' := by
  apply List.ext_getElem?
  intro j
  by_cases hj : j < 165
  · rw [wl_at (h := h') hj]
    by_cases e : i = j
    · subst e
      rw [List.getElem?_set_self (by rw [wl_len]; exact hi), h1, h2, if_pos rfl, if_pos rfl]
    · rw [List.getElem?_set_ne e, wl_at hj, h1, h2, if_neg (fun q => e q.symm), if_neg (fun q => e q.symm)]
  · rw [wl_no (h := h') hj]
    apply List.getElem?_eq_none
    rw [List.length_set, wl_len]
    omega
def AA (w : WK) : Nat → Prop := fun q => ∃ i, i < 165 ∧ w.2.1 i = q
def WD (w : WK) : Prop := ∀ i j, i < 165 → j < 165 → w.2.1 i = w.2.1 j → i = j
theorem wl_D {w : WK} {h : TT} (hw : WD w) : va_D (AA w) (wl w h) := by
  refine ⟨fun i j p q hi hj e => ?_, fun k q hk => ?_⟩
  · have li := wl_lt hi
    have lj := wl_lt hj
    rw [wl_at li] at hi
    rw [wl_at lj] at hj
    cases hi
    cases hj
    exact hw i j li lj e
  · have lk := wl_lt hk
    rw [wl_at lk] at hk
    cases hk
    exact ⟨k, lk, rfl⟩
def tyL (tA : Nat → ClassId) : List (ClassId × FieldType) := [(tA 0, .int), (tA 1, .byte), (tA 2, .boolean), (tA 3, .array .int), (tA 4, .array .byte), (tA 5, .object "SnowHouse$Snow"), (tA 6, .object "SnowHouse$Plan"), (tA 7, .object "SnowHouse$Build")]
def nestM : List (String × Nat × MethodName) := [("SnowHouse$Reader", 89, ⟨"SnowHouse", "isBelow", "(II)Z"⟩), ("SnowHouse$Plan", 41, ⟨"SnowHouse", "isBelow", "(II)Z"⟩), ("SnowHouse$Build", 138, ⟨"SnowHouse", "isBelow", "(II)Z"⟩), ("SnowHouse$Plan", 53, ⟨"SnowHouse", "isUpTo", "(II)Z"⟩), ("SnowHouse$Feast", 27, ⟨"SnowHouse", "isBelow", "(II)Z"⟩), ("SnowHouse$Feast", 40, ⟨"SnowHouse", "isUpTo", "(II)Z"⟩), ("SnowHouse$Indoors", 54, ⟨"SnowHouse", "isBelow", "(II)Z"⟩)]
def nestF : List (String × Nat × String) := [("SnowHouse$Reader", 99, "WORTH_LETTERS"), ("SnowHouse$Reader", 105, "WORTH_LEAST"), ("SnowHouse$Reader", 108, "WORTH_MOST"), ("SnowHouse$Reader", 37, "WORTH_USUAL")]
def NF (U : State) : Prop := (∀ q ∈ nestM, va_Nw (.methodLinkNest q.1 q.2.1 q.2.2 "SnowHouse") U) ∧ ∀ q ∈ nestF, va_Nw (.fieldLinkNest q.1 q.2.1 "SnowHouse" q.2.2 "[I" "SnowHouse") U
def sN (j : Nat) : String := match j with
  | 0 => "WORTH_LETTERS"
  | 1 => "WORTH_LEAST"
  | 2 => "WORTH_MOST"
  | _ => "WORTH_USUAL"
def sv (j k : Nat) : Int32 := List.getD (α := Int32) (match j with
  | 0 => [103, 114, 99, 119]
  | 1 => [1, 0, 0, 1]
  | 2 => [30, 9, 40, 9]
  | _ => [12, 4, 20, 3]) k 0
def SF (w : WK) (U : State) (H : Heap) : Prop := ∀ j, j < 4 → va_Z "SnowHouse" (sN j) "[I" (.ref (w.2.2.2 j)) (AA w) U H ∧ va_T .int (w.2.2.2 j) 4 (fun k => .int (sv j k)) (AA w) U H
def KS (w : WK) (U : State) (H : Heap) : Prop := va_K w.1 vwCl (tyL w.2.2.1) U ∧ NF U ∧ SF w U H ∧ WD w
theorem KS.go {w : WK} {s U : State} {H H1 : Heap} (h : KS w s H) (hW : s.WarmedH U.vm) (hz : H.size ≤ H1.size) (hq : ∀ a : Nat, a < H.size → ¬ AA w a → H1[a]? = H[a]?) : KS w U H1 := by
  obtain ⟨h1, h2, h3, h4⟩ := h
  refine ⟨va_K.moved hW.alike h1, ⟨fun q hm => va_Nw.warmM hW (h2.1 q hm), fun q hm => va_Nw.warmF hW (h2.2 q hm)⟩, fun j hj => ?_, h4⟩
  obtain ⟨a1, a2⟩ := h3 j hj
  exact ⟨(a1.moved hW.alike).kept hq, (a2.moved hW.alike).kept hq⟩
theorem KS.same {w : WK} {u U : State} {H : Heap} (hv : u.vm = U.vm) (h : KS w u H) : KS w U H := by
  obtain ⟨h1, h2, h3, h4⟩ := h
  have ha : u.vm.Alike U.vm := hv ▸ Vm.Alike.refl u.vm
  refine ⟨va_K.moved ha h1, ⟨fun q hm => va_Nw.same rfl hv (h2.1 q hm), fun q hm => va_Nw.same rfl hv (h2.2 q hm)⟩, fun j hj => ?_, h4⟩
  obtain ⟨a1, a2⟩ := h3 j hj
  exact ⟨a1.moved ha, a2.moved ha⟩
def WI (w : WK) (h : TT) (U : State) : Prop := va_P w.1 vwCl (wl w h) U.heap ∧ KS w U U.heap
def PG (w : WK) (av : List Value) (h : TT) : Array Value → State → Prop := va_Pc av (fun U => WI w h U)
def QG (w : WK) (x : Option Value × TT) : Array Value → State → Outcome → State → Prop := fun _ st oc t => (oc = .returned x.1 ∧ WI w x.2 t) ∧ va_F (AA w) st t
def fI (h : TT) : Int32 → Option Value × TT := fun r => (some (.int r), h)
def fJ (h : TT) : Int64 → Option Value × TT := fun r => (some (.long r), h)
def fIT : Int32 × TT → Option Value × TT := fun q => (some (.int q.1), q.2)
def fJT : Int64 × TT → Option Value × TT := fun q => (some (.long q.1), q.2)
def fV : TT → Option Value × TT := fun h => (none, h)
def CX (p : Program) (R : Room) (s : State) (m : MethodId) (args : Array Value) (meth : Method) (c : Code) (w : WK) (own : String) (cc : ByteArray) (nL : Nat) (rt : Option FieldType) (fr lo : Nat) : Prop :=
  p.tables.exec = Jvm.exec ∧ c.code = cc ∧ c.maxLocals = nL ∧ s.vm.findClass own = some m.cls ∧ (∀ x ∈ wsG, x.before args s = true) ∧ meth.sig.returnType = rt ∧ meth.locks = false ∧ KS w s s.heap ∧ R.frames = fr ∧ R.locals = lo
def GO {ρ : Type} (p : Program) (l : Launch) (e : Env) (R : Room) (s : State) (m : MethodId) (args : Array Value) (below : List Frame) (meth : Method) (c : Code) (w : WK) (nL : Nat) (f : ρ → Option Value × TT) (o : Option ρ) (pc : Nat) (lv : List (Nat × Value)) (st : List Value) (h : TT) : Prop :=
  ∀ x, o = some x → ∀ (H : Heap) (locs : List Loc) (ls : Array Slot), va_P w.1 vwCl (wl w h) H → va_S (AA w) s.heap H locs → lv_has ls nL lv → W p l e R s m args below meth c H locs 0 0 (MQ below (QG w (f x)) args s 0 0 (AA w)) (F0 m pc ls st)
def FL (own : String) (idx ci k : Nat) : Prop := ∃ (C : String) (T : u_T) (N : Nat), vwCl[ci]? = some (C, T, N) ∧ k < N ∧ (∀ x ∈ u_ws C T N, x ∈ wsG) ∧ Cond.fieldLink own idx (T k).1 (T k).2.1 (T k).2.2.1 ∈ wsG
def FP (own : String) (idx ci k : Nat) (ty : FieldType) : Prop := ∃ (C : String) (T : u_T) (N : Nat) (ty0 : Nat → FieldType), vwCl[ci]? = some (C, T, N) ∧ k < N ∧ (∀ x ∈ u_ws C T N, x ∈ wsG) ∧ Cond.fieldLink own idx (T k).1 (T k).2.1 (T k).2.2.1 ∈ wsG ∧ (∀ k, k < N → parseFieldDescriptor (T k).2.2.1 = some (ty0 k)) ∧ (∀ a, a < N → ∀ b, b < N → a ≠ b → (T a).2.1 ≠ (T b).2.1) ∧ (T k).2.2.2 = false ∧ parseFieldDescriptor (T k).2.2.1 = some ty
def SI (w : WK) (i n : Nat) : Prop := i < 165 ∧ ∀ r l, sh w i r l = .inl (w.2.2.1 0, n, .inl r)
def SB (w : WK) (i n : Nat) : Prop := i < 165 ∧ ∀ r l, sh w i r l = .inl (w.2.2.1 1, n, .inl r)
def SZ (w : WK) (i n : Nat) : Prop := i < 165 ∧ ∀ r l, sh w i r l = .inl (w.2.2.1 2, n, .inl r)
def SR (w : WK) (i t n : Nat) (g : Nat → Nat) : Prop := i < 165 ∧ ∀ r l, sh w i r l = .inl (w.2.2.1 t, n, .inr (.inr (.inr (.inr (fun j => some (w.2.1 (g j)))))))
def SO (w : WK) (i ci : Nat) (fs : (Nat → Int32) → (Nat → Int64) → List Value) : Prop := i < 165 ∧ ∀ r l, sh w i r l = .inr (ci, fs r l)
def MV (own : String) (idx : Nat) (y : MethodName) (bytes : ByteArray) (maxL : Nat) (ret : Option FieldType) (n : Nat) : Prop := Cond.methodLink own idx y ∈ wsG ∧ Cond.instanceMethod y ∈ wsG ∧ Cond.selects y.cls y y ∈ wsG ∧ Cond.initialized y.cls ∈ wsG ∧ Cond.code y bytes maxL ret ∈ wsG ∧ (y.cls ≠ "java/lang/invoke/MethodHandle" ∧ y.cls ≠ "java/lang/invoke/VarHandle" ∧ (parseMethodDescriptor y.desc).map (fun d => d.parameters.length) = some n)
def MS (own : String) (idx : Nat) (y : MethodName) (bytes : ByteArray) (maxL : Nat) (ret : Option FieldType) (n : Nat) : Prop := Cond.methodLink own idx y ∈ wsG ∧ Cond.static y ∈ wsG ∧ Cond.initialized y.cls ∈ wsG ∧ Cond.code y bytes maxL ret ∈ wsG ∧ (y.cls ≠ "java/lang/invoke/MethodHandle" ∧ y.cls ≠ "java/lang/invoke/VarHandle" ∧ (parseMethodDescriptor y.desc).map (fun d => d.parameters.length) = some n)
def MN (own : String) (idx : Nat) (y : MethodName) (bytes : ByteArray) (maxL : Nat) (ret : Option FieldType) (n : Nat) : Prop := (own, idx, y) ∈ nestM ∧ Cond.static y ∈ wsG ∧ Cond.initialized y.cls ∈ wsG ∧ Cond.code y bytes maxL ret ∈ wsG ∧ (y.cls ≠ "java/lang/invoke/MethodHandle" ∧ y.cls ≠ "java/lang/invoke/VarHandle" ∧ (parseMethodDescriptor y.desc).map (fun d => d.parameters.length) = some n)
theorem goodG {y : MethodName} {bytes : ByteArray} {maxL : Nat} {ret : Option FieldType} (h : Cond.code y bytes maxL ret ∈ wsG) : GoodIn wsG (Cond.code y bytes maxL ret :: wsG) := by
  intro x hx
  have hm : x ∈ wsG := by
    rcases List.mem_cons.mp hx with rfl | h1
    · exact h
    · exact h1
  exact ⟨hm, good_of_word (List.mem_filter.mp hm).2⟩
theorem PG.blind {w : WK} {av : List Value} {h : TT} : FrameBlind (PG w av h) := by
  intro a U g mk hq
  obtain ⟨h1, h2, h3⟩ := hq
  exact ⟨h1, h2, h3.same rfl⟩
section GOS
variable {ρ ρ1 : Type} {p : Program} {l : Launch} {e : Env} {R : Room} {s : State} {m : MethodId} {args : Array Value} {below : List Frame} {meth : Method} {c : Code} {w : WK} {nL : Nat} {f : ρ → Option Value × TT} {o o1 o2 : Option ρ} {pc : Nat} {lv lv' : List (Nat × Value)} {st : List Value} {h : TT} {own : String} {cc : ByteArray} {rt : Option FieldType} {fr lo : Nat}
theorem g_none : GO p l e R s m args below meth c w nL f none pc lv st h := fun x hx => by cases hx
theorem g_lv (ks : List Nat) (hl : lv_pick lv ks = lv') (k : GO p l e R s m args below meth c w nL f o pc lv' st h) : GO p l e R s m args below meth c w nL f o pc lv st h := fun x hx H locs ls hP hS h0 => k x hx H locs ls hP hS (lv_sub h0 ks hl)
theorem g_nm {a : TT} {g : TT → Option ρ} (k : ∀ h1, GO p l e R s m args below meth c w nL f (g h1) pc lv st h1) : GO p l e R s m args below meth c w nL f (nm a g) pc lv st a := k a
theorem g_nmi {a : Int32} {g : Int32 → Option ρ} (k : ∀ x, GO p l e R s m args below meth c w nL f (g x) pc lv (.int x :: st) h) : GO p l e R s m args below meth c w nL f (nm a g) pc lv (.int a :: st) h := k a
theorem g_nmj {a : Int64} {g : Int64 → Option ρ} (k : ∀ x, GO p l e R s m args below meth c w nL f (g x) pc lv (.long x :: st) h) : GO p l e R s m args below meth c w nL f (nm a g) pc lv (.long a :: st) h := k a
theorem g_guard {b : Bool} (k : b = true → GO p l e R s m args below meth c w nL f o pc lv st h) : GO p l e R s m args below meth c w nL f (if b = true then o else none) pc lv st h := fun x hx H locs ls hP hS h0 => by
  by_cases hb : b = true
  · rw [if_pos hb] at hx
    exact k hb x hx H locs ls hP hS h0
  · rw [if_neg hb] at hx
    cases hx
theorem g_guardp {b : Prop} [Decidable b] (k : ¬ b → GO p l e R s m args below meth c w nL f o pc lv st h) : GO p l e R s m args below meth c w nL f (if b then none else o) pc lv st h := fun x hx H locs ls hP hS h0 => by
  by_cases hb : b
  · rw [if_pos hb] at hx
    cases hx
  · rw [if_neg hb] at hx
    exact k hb x hx H locs ls hP hS h0
theorem g_iadd (C : CX p R s m args meth c w own cc nL rt fr lo) {x y : Int32} (hd : decode cc pc = .ok (.iadd, 1)) (k : GO p l e R s m args below meth c w nL f o (pc + 1) lv (.int (x + y) :: st) h) : GO p l e R s m args below meth c w nL f o pc lv (.int y :: .int x :: st) h := fun x9 hx H locs ls hP hS h0 => lv_iadd C.1 C.2.1 hd (k x9 hx H locs ls hP hS h0)
theorem g_isub (C : CX p R s m args meth c w own cc nL rt fr lo) {x y : Int32} (hd : decode cc pc = .ok (.isub, 1)) (k : GO p l e R s m args below meth c w nL f o (pc + 1) lv (.int (x - y) :: st) h) : GO p l e R s m args below meth c w nL f o pc lv (.int y :: .int x :: st) h := fun x9 hx H locs ls hP hS h0 => lv_isub C.1 C.2.1 hd (k x9 hx H locs ls hP hS h0)
theorem g_imul (C : CX p R s m args meth c w own cc nL rt fr lo) {x y : Int32} (hd : decode cc pc = .ok (.imul, 1)) (k : GO p l e R s m args below meth c w nL f o (pc + 1) lv (.int (x * y) :: st) h) : GO p l e R s m args below meth c w nL f o pc lv (.int y :: .int x :: st) h := fun x9 hx H locs ls hP hS h0 => lv_imul C.1 C.2.1 hd (k x9 hx H locs ls hP hS h0)
theorem g_iand (C : CX p R s m args meth c w own cc nL rt fr lo) {x y : Int32} (hd : decode cc pc = .ok (.iand, 1)) (k : GO p l e R s m args below meth c w nL f o (pc + 1) lv (.int (x &&& y) :: st) h) : GO p l e R s m args below meth c w nL f o pc lv (.int y :: .int x :: st) h := fun x9 hx H locs ls hP hS h0 => lv_iand C.1 C.2.1 hd (k x9 hx H locs ls hP hS h0)
theorem g_ishl (C : CX p R s m args meth c w own cc nL rt fr lo) {x y : Int32} (hd : decode cc pc = .ok (.ishl, 1)) (k : GO p l e R s m args below meth c w nL f o (pc + 1) lv (.int (x <<< (y &&& 31)) :: st) h) : GO p l e R s m args below meth c w nL f o pc lv (.int y :: .int x :: st) h := fun x9 hx H locs ls hP hS h0 => lv_ishl C.1 C.2.1 hd (k x9 hx H locs ls hP hS h0)
theorem g_ishr (C : CX p R s m args meth c w own cc nL rt fr lo) {x y : Int32} (hd : decode cc pc = .ok (.ishr, 1)) (k : GO p l e R s m args below meth c w nL f o (pc + 1) lv (.int (x >>> (y &&& 31)) :: st) h) : GO p l e R s m args below meth c w nL f o pc lv (.int y :: .int x :: st) h := fun x9 hx H locs ls hP hS h0 => lv_ishr C.1 C.2.1 hd (k x9 hx H locs ls hP hS h0)
theorem g_idiv (C : CX p R s m args meth c w own cc nL rt fr lo) {x y : Int32} (hd : decode cc pc = .ok (.idiv, 1)) (hne : ¬ y = 0) (k : GO p l e R s m args below meth c w nL f o (pc + 1) lv (.int (x / y) :: st) h) : GO p l e R s m args below meth c w nL f o pc lv (.int y :: .int x :: st) h := fun x9 hx H locs ls hP hS h0 => lv_idiv C.1 C.2.1 hd hne (k x9 hx H locs ls hP hS h0)
theorem g_irem (C : CX p R s m args meth c w own cc nL rt fr lo) {x y : Int32} (hd : decode cc pc = .ok (.irem, 1)) (hne : ¬ y = 0) (k : GO p l e R s m args below meth c w nL f o (pc + 1) lv (.int (x - x / y * y) :: st) h) : GO p l e R s m args below meth c w nL f o pc lv (.int y :: .int x :: st) h := fun x9 hx H locs ls hP hS h0 => lv_irem C.1 C.2.1 hd hne (k x9 hx H locs ls hP hS h0)
theorem g_ladd (C : CX p R s m args meth c w own cc nL rt fr lo) {x y : Int64} (hd : decode cc pc = .ok (.ladd, 1)) (k : GO p l e R s m args below meth c w nL f o (pc + 1) lv (.long (x + y) :: st) h) : GO p l e R s m args below meth c w nL f o pc lv (.long y :: .long x :: st) h := fun x9 hx H locs ls hP hS h0 => lv_ladd C.1 C.2.1 hd (k x9 hx H locs ls hP hS h0)
theorem g_lsub (C : CX p R s m args meth c w own cc nL rt fr lo) {x y : Int64} (hd : decode cc pc = .ok (.lsub, 1)) (k : GO p l e R s m args below meth c w nL f o (pc + 1) lv (.long (x - y) :: st) h) : GO p l e R s m args below meth c w nL f o pc lv (.long y :: .long x :: st) h := fun x9 hx H locs ls hP hS h0 => lv_lsub C.1 C.2.1 hd (k x9 hx H locs ls hP hS h0)
theorem g_lmul (C : CX p R s m args meth c w own cc nL rt fr lo) {x y : Int64} (hd : decode cc pc = .ok (.lmul, 1)) (k : GO p l e R s m args below meth c w nL f o (pc + 1) lv (.long (x * y) :: st) h) : GO p l e R s m args below meth c w nL f o pc lv (.long y :: .long x :: st) h := fun x9 hx H locs ls hP hS h0 => lv_lmul C.1 C.2.1 hd (k x9 hx H locs ls hP hS h0)
theorem g_ldiv (C : CX p R s m args meth c w own cc nL rt fr lo) {x y : Int64} (hd : decode cc pc = .ok (.ldiv, 1)) (hne : ¬ y = 0) (k : GO p l e R s m args below meth c w nL f o (pc + 1) lv (.long (x / y) :: st) h) : GO p l e R s m args below meth c w nL f o pc lv (.long y :: .long x :: st) h := fun x9 hx H locs ls hP hS h0 => lv_ldiv C.1 C.2.1 hd hne (k x9 hx H locs ls hP hS h0)
theorem g_lrem (C : CX p R s m args meth c w own cc nL rt fr lo) {x y : Int64} (hd : decode cc pc = .ok (.lrem, 1)) (hne : ¬ y = 0) (k : GO p l e R s m args below meth c w nL f o (pc + 1) lv (.long (x - x / y * y) :: st) h) : GO p l e R s m args below meth c w nL f o pc lv (.long y :: .long x :: st) h := fun x9 hx H locs ls hP hS h0 => lv_lrem C.1 C.2.1 hd hne (k x9 hx H locs ls hP hS h0)
theorem g_i2l (C : CX p R s m args meth c w own cc nL rt fr lo) {x : Int32} (hd : decode cc pc = .ok (.i2l, 1)) (k : GO p l e R s m args below meth c w nL f o (pc + 1) lv (.long x.toInt64 :: st) h) : GO p l e R s m args below meth c w nL f o pc lv (.int x :: st) h := fun x9 hx H locs ls hP hS h0 => lv_i2l C.1 C.2.1 hd rfl (k x9 hx H locs ls hP hS h0)
theorem g_l2i (C : CX p R s m args meth c w own cc nL rt fr lo) {x : Int64} (hd : decode cc pc = .ok (.l2i, 1)) (k : GO p l e R s m args below meth c w nL f o (pc + 1) lv (.int x.toInt32 :: st) h) : GO p l e R s m args below meth c w nL f o pc lv (.long x :: st) h := fun x9 hx H locs ls hP hS h0 => lv_l2i C.1 C.2.1 hd rfl (k x9 hx H locs ls hP hS h0)
theorem g_i2b (C : CX p R s m args meth c w own cc nL rt fr lo) {x : Int32} (hd : decode cc pc = .ok (.i2b, 1)) (k : GO p l e R s m args below meth c w nL f o (pc + 1) lv (.int x.toInt8.toInt32 :: st) h) : GO p l e R s m args below meth c w nL f o pc lv (.int x :: st) h := fun x9 hx H locs ls hP hS h0 => lv_i2b C.1 C.2.1 hd rfl (k x9 hx H locs ls hP hS h0)
theorem g_lcmp (C : CX p R s m args meth c w own cc nL rt fr lo) {x y : Int64} (hd : decode cc pc = .ok (.lcmp, 1)) (k : GO p l e R s m args below meth c w nL f o (pc + 1) lv (.int (lg_cmp x y) :: st) h) : GO p l e R s m args below meth c w nL f o pc lv (.long y :: .long x :: st) h := fun x9 hx H locs ls hP hS h0 => W.lcmp C.1 C.2.1 hd (k x9 hx H locs ls hP hS h0)
theorem g_dup (C : CX p R s m args meth c w own cc nL rt fr lo) {v : Value} (hd : decode cc pc = .ok (.dup, 1)) (hv : v.category = 1) (k : GO p l e R s m args below meth c w nL f o (pc + 1) lv (v :: v :: st) h) : GO p l e R s m args below meth c w nL f o pc lv (v :: st) h := fun x9 hx H locs ls hP hS h0 => lv_dup C.1 C.2.1 hd hv (k x9 hx H locs ls hP hS h0)
theorem g_pop (C : CX p R s m args meth c w own cc nL rt fr lo) {v : Value} (hd : decode cc pc = .ok (.pop, 1)) (hv : v.category = 1) (k : GO p l e R s m args below meth c w nL f o (pc + 1) lv (st) h) : GO p l e R s m args below meth c w nL f o pc lv (v :: st) h := fun x9 hx H locs ls hP hS h0 => lv_pop C.1 C.2.1 hd hv (k x9 hx H locs ls hP hS h0)
theorem g_dup2 (C : CX p R s m args meth c w own cc nL rt fr lo) {va vb : Value} (hd : decode cc pc = .ok (.dup2, 1)) (hv : va.category = 1) (hv2 : vb.category = 1) (k : GO p l e R s m args below meth c w nL f o (pc + 1) lv (va :: vb :: va :: vb :: st) h) : GO p l e R s m args below meth c w nL f o pc lv (va :: vb :: st) h := fun x9 hx H locs ls hP hS h0 => lv_dup2_11 C.1 C.2.1 hd hv hv2 (k x9 hx H locs ls hP hS h0)
theorem g_iconst (C : CX p R s m args meth c w own cc nL rt fr lo) {n : Int} {v : Int32} (hd : decode cc pc = .ok (.iconst n, 1)) (hv : Int32.ofInt n = v) (k : GO p l e R s m args below meth c w nL f o (pc + 1) lv (.int v :: st) h) : GO p l e R s m args below meth c w nL f o pc lv (st) h := fun x9 hx H locs ls hP hS h0 => lv_iconst C.1 C.2.1 hd hv (k x9 hx H locs ls hP hS h0)
theorem g_bipush (C : CX p R s m args meth c w own cc nL rt fr lo) {n : Int} {v : Int32} (hd : decode cc pc = .ok (.bipush n, 2)) (hv : (Int8.ofInt n).toInt32 = v) (k : GO p l e R s m args below meth c w nL f o (pc + 2) lv (.int v :: st) h) : GO p l e R s m args below meth c w nL f o pc lv (st) h := fun x9 hx H locs ls hP hS h0 => lv_bipush C.1 C.2.1 hd hv (k x9 hx H locs ls hP hS h0)
theorem g_sipush (C : CX p R s m args meth c w own cc nL rt fr lo) {n : Int} {v : Int32} (hd : decode cc pc = .ok (.sipush n, 3)) (hv : (Int16.ofInt n).toInt32 = v) (k : GO p l e R s m args below meth c w nL f o (pc + 3) lv (.int v :: st) h) : GO p l e R s m args below meth c w nL f o pc lv (st) h := fun x9 hx H locs ls hP hS h0 => lv_sipush C.1 C.2.1 hd hv (k x9 hx H locs ls hP hS h0)
theorem g_lconst (C : CX p R s m args meth c w own cc nL rt fr lo) {n : Fin 2} {v : Int64} (hd : decode cc pc = .ok (.lconst n, 1)) (hv : Int64.ofNat (n : Nat) = v) (k : GO p l e R s m args below meth c w nL f o (pc + 1) lv (.long v :: st) h) : GO p l e R s m args below meth c w nL f o pc lv (st) h := fun x9 hx H locs ls hP hS h0 => lv_lconst C.1 C.2.1 hd hv (k x9 hx H locs ls hP hS h0)
theorem g_ldc (C : CX p R s m args meth c w own cc nL rt fr lo) {index : Nat} {v : Int32} (hw : Cond.constant own index v ∈ wsG) (hd : decode cc pc = .ok (.ldc index, 2)) (k : GO p l e R s m args below meth c w nL f o (pc + 2) lv (.int v :: st) h) : GO p l e R s m args below meth c w nL f o pc lv st h := fun x9 hx H locs ls hP hS h0 => lv_ldc C.1 C.2.1 C.2.2.2.1 (C.2.2.2.2.1 _ hw) hd (k x9 hx H locs ls hP hS h0)
theorem g_ldcw (C : CX p R s m args meth c w own cc nL rt fr lo) {index : Nat} {v : Int32} (hw : Cond.constant own index v ∈ wsG) (hd : decode cc pc = .ok (.ldc_w index, 3)) (k : GO p l e R s m args below meth c w nL f o (pc + 3) lv (.int v :: st) h) : GO p l e R s m args below meth c w nL f o pc lv st h := fun x9 hx H locs ls hP hS h0 => lv_ldcw C.1 C.2.1 C.2.2.2.1 (C.2.2.2.2.1 _ hw) hd (k x9 hx H locs ls hP hS h0)
theorem g_ldc2 (C : CX p R s m args meth c w own cc nL rt fr lo) {index : Nat} {v : Int64} (hw : Cond.constantLong own index v ∈ wsG) (hd : decode cc pc = .ok (.ldc2_w index, 3)) (k : GO p l e R s m args below meth c w nL f o (pc + 3) lv (.long v :: st) h) : GO p l e R s m args below meth c w nL f o pc lv st h := fun x9 hx H locs ls hP hS h0 => lv_ldc2 C.1 C.2.1 C.2.2.2.1 (C.2.2.2.2.1 _ hw) hd (k x9 hx H locs ls hP hS h0)
theorem g_iload (C : CX p R s m args meth c w own cc nL rt fr lo) (k0 : Nat) {i : Nat} {x : Int32} (hl : lv[k0]? = some (i, .int x)) (hd : decode cc pc = .ok (.iload i, 2)) (k : GO p l e R s m args below meth c w nL f o (pc + 2) lv (.int x :: st) h) : GO p l e R s m args below meth c w nL f o pc lv st h := fun x9 hx H locs ls hP hS h0 => lv_iload C.1 C.2.1 hd (lv_at h0 k0 hl) (k x9 hx H locs ls hP hS h0)
theorem g_iload_n (C : CX p R s m args meth c w own cc nL rt fr lo) (k0 : Nat) {j : Fin 4} {i : Nat} {x : Int32} (hl : lv[k0]? = some (i, .int x)) (hd : decode cc pc = .ok (.iload_n j, 1)) (hi : (j : Nat) = i) (k : GO p l e R s m args below meth c w nL f o (pc + 1) lv (.int x :: st) h) : GO p l e R s m args below meth c w nL f o pc lv st h := fun x9 hx H locs ls hP hS h0 => lv_iload_n C.1 C.2.1 hd hi (lv_at h0 k0 hl) (k x9 hx H locs ls hP hS h0)
theorem g_lload (C : CX p R s m args meth c w own cc nL rt fr lo) (k0 : Nat) {i : Nat} {x : Int64} (hl : lv[k0]? = some (i, .long x)) (hd : decode cc pc = .ok (.lload i, 2)) (k : GO p l e R s m args below meth c w nL f o (pc + 2) lv (.long x :: st) h) : GO p l e R s m args below meth c w nL f o pc lv st h := fun x9 hx H locs ls hP hS h0 => lv_lload C.1 C.2.1 hd (lv_at h0 k0 hl) (k x9 hx H locs ls hP hS h0)
theorem g_lload_n (C : CX p R s m args meth c w own cc nL rt fr lo) (k0 : Nat) {j : Fin 4} {i : Nat} {x : Int64} (hl : lv[k0]? = some (i, .long x)) (hd : decode cc pc = .ok (.lload_n j, 1)) (hi : (j : Nat) = i) (k : GO p l e R s m args below meth c w nL f o (pc + 1) lv (.long x :: st) h) : GO p l e R s m args below meth c w nL f o pc lv st h := fun x9 hx H locs ls hP hS h0 => lv_lload_n C.1 C.2.1 hd hi (lv_at h0 k0 hl) (k x9 hx H locs ls hP hS h0)
theorem g_aload (C : CX p R s m args meth c w own cc nL rt fr lo) (k0 : Nat) {i : Nat} {x : Nat} (hl : lv[k0]? = some (i, .ref x)) (hd : decode cc pc = .ok (.aload i, 2)) (k : GO p l e R s m args below meth c w nL f o (pc + 2) lv (.ref x :: st) h) : GO p l e R s m args below meth c w nL f o pc lv st h := fun x9 hx H locs ls hP hS h0 => lv_aload C.1 C.2.1 hd (lv_at h0 k0 hl) (k x9 hx H locs ls hP hS h0)
theorem g_aload_n (C : CX p R s m args meth c w own cc nL rt fr lo) (k0 : Nat) {j : Fin 4} {i : Nat} {x : Nat} (hl : lv[k0]? = some (i, .ref x)) (hd : decode cc pc = .ok (.aload_n j, 1)) (hi : (j : Nat) = i) (k : GO p l e R s m args below meth c w nL f o (pc + 1) lv (.ref x :: st) h) : GO p l e R s m args below meth c w nL f o pc lv st h := fun x9 hx H locs ls hP hS h0 => lv_aload_n C.1 C.2.1 hd hi (lv_at h0 k0 hl) (k x9 hx H locs ls hP hS h0)
theorem g_istore (C : CX p R s m args meth c w own cc nL rt fr lo) {i : Nat} {x : Int32} (hd : decode cc pc = .ok (.istore i, 2)) (hn : i < nL) (hl : (i, Value.int x) :: lv.filter (fun q => !(q.1 == i) && !(q.1 + 1 == i && q.2.category == 2)) = lv') (k : GO p l e R s m args below meth c w nL f o (pc + 2) lv' st h) : GO p l e R s m args below meth c w nL f o pc lv (.int x :: st) h := fun x9 hx H locs ls hP hS h0 => lv_istore C.1 C.2.1 hd h0 hn hl (fun ls2 h2 => k x9 hx H locs ls2 hP hS h2)
theorem g_istore_n (C : CX p R s m args meth c w own cc nL rt fr lo) {j : Fin 4} {i : Nat} {x : Int32} (hd : decode cc pc = .ok (.istore_n j, 1)) (hi : (j : Nat) = i) (hn : i < nL) (hl : (i, Value.int x) :: lv.filter (fun q => !(q.1 == i) && !(q.1 + 1 == i && q.2.category == 2)) = lv') (k : GO p l e R s m args below meth c w nL f o (pc + 1) lv' st h) : GO p l e R s m args below meth c w nL f o pc lv (.int x :: st) h := fun x9 hx H locs ls hP hS h0 => lv_istore_n C.1 C.2.1 hd hi h0 hn hl (fun ls2 h2 => k x9 hx H locs ls2 hP hS h2)
theorem g_lstore (C : CX p R s m args meth c w own cc nL rt fr lo) {i : Nat} {x : Int64} (hd : decode cc pc = .ok (.lstore i, 2)) (hn : i + 1 < nL) (hl : (i, Value.long x) :: lv.filter (fun q => !(q.1 == i) && (!(q.1 == i + 1) && !(q.1 + 1 == i && q.2.category == 2))) = lv') (k : GO p l e R s m args below meth c w nL f o (pc + 2) lv' st h) : GO p l e R s m args below meth c w nL f o pc lv (.long x :: st) h := fun x9 hx H locs ls hP hS h0 => lv_lstore C.1 C.2.1 hd h0 hn hl (fun ls2 h2 => k x9 hx H locs ls2 hP hS h2)
theorem g_lstore_n (C : CX p R s m args meth c w own cc nL rt fr lo) {j : Fin 4} {i : Nat} {x : Int64} (hd : decode cc pc = .ok (.lstore_n j, 1)) (hi : (j : Nat) = i) (hn : i + 1 < nL) (hl : (i, Value.long x) :: lv.filter (fun q => !(q.1 == i) && (!(q.1 == i + 1) && !(q.1 + 1 == i && q.2.category == 2))) = lv') (k : GO p l e R s m args below meth c w nL f o (pc + 1) lv' st h) : GO p l e R s m args below meth c w nL f o pc lv (.long x :: st) h := fun x9 hx H locs ls hP hS h0 => lv_lstore_n C.1 C.2.1 hd hi h0 hn hl (fun ls2 h2 => k x9 hx H locs ls2 hP hS h2)
theorem g_astore (C : CX p R s m args meth c w own cc nL rt fr lo) {i : Nat} {x : Nat} (hd : decode cc pc = .ok (.astore i, 2)) (hn : i < nL) (hl : (i, Value.ref x) :: lv.filter (fun q => !(q.1 == i) && !(q.1 + 1 == i && q.2.category == 2)) = lv') (k : GO p l e R s m args below meth c w nL f o (pc + 2) lv' st h) : GO p l e R s m args below meth c w nL f o pc lv (.ref x :: st) h := fun x9 hx H locs ls hP hS h0 => lv_astore C.1 C.2.1 hd h0 hn hl (fun ls2 h2 => k x9 hx H locs ls2 hP hS h2)
theorem g_iinc (C : CX p R s m args meth c w own cc nL rt fr lo) (k0 : Nat) {i : Nat} {n : Int} {x v : Int32} (hl0 : lv[k0]? = some (i, .int x)) (hd : decode cc pc = .ok (.iinc i n, 3)) (hv : x + Int32.ofInt n = v) (hn : i < nL) (hl : (i, Value.int v) :: lv.filter (fun q => !(q.1 == i) && !(q.1 + 1 == i && q.2.category == 2)) = lv') (k : GO p l e R s m args below meth c w nL f o (pc + 3) lv' st h) : GO p l e R s m args below meth c w nL f o pc lv st h := fun x9 hx H locs ls hP hS h0 => lv_iinc C.1 C.2.1 hd h0 hl0 hv hn hl (fun ls2 h2 => k x9 hx H locs ls2 hP hS h2)
theorem g_goto (C : CX p R s m args meth c w own cc nL rt fr lo) {off : Int} {tgt : Nat} (hd : decode cc pc = .ok (.goto off, 3)) (ht : (pc : Int) + off = (tgt : Int)) (k : GO p l e R s m args below meth c w nL f o tgt lv st h) : GO p l e R s m args below meth c w nL f o pc lv st h := fun x9 hx H locs ls hP hS h0 => lv_goto C.1 C.2.1 hd ht (k x9 hx H locs ls hP hS h0)
theorem g_icmp_eq (C : CX p R s m args meth c w own cc nL rt fr lo) {x y : Int32} {off : Int} {tgt : Nat} (hd : decode cc pc = .ok (.if_icmp .eq off, 3)) (ht : (pc : Int) + off = (tgt : Int)) (ka : x = y → GO p l e R s m args below meth c w nL f o1 tgt lv st h) (kb : ¬ x = y → GO p l e R s m args below meth c w nL f o2 (pc + 3) lv st h) : GO p l e R s m args below meth c w nL f (if x = y then o1 else o2) pc lv (.int y :: .int x :: st) h := fun x9 hx H locs ls hP hS h0 => lv_icmp_eq C.1 C.2.1 hd ht (fun hc => ka hc x9 (by rw [if_pos hc] at hx; exact hx) H locs ls hP hS h0) (fun hc => kb hc x9 (by rw [if_neg hc] at hx; exact hx) H locs ls hP hS h0)
theorem g_if_eq (C : CX p R s m args meth c w own cc nL rt fr lo) {x : Int32} {off : Int} {tgt : Nat} (hd : decode cc pc = .ok (.ifCond .eq off, 3)) (ht : (pc : Int) + off = (tgt : Int)) (ka : x = 0 → GO p l e R s m args below meth c w nL f o1 tgt lv st h) (kb : ¬ x = 0 → GO p l e R s m args below meth c w nL f o2 (pc + 3) lv st h) : GO p l e R s m args below meth c w nL f (if x = 0 then o1 else o2) pc lv (.int x :: st) h := fun x9 hx H locs ls hP hS h0 => lv_if_eq C.1 C.2.1 hd ht (fun hc => ka hc x9 (by rw [if_pos hc] at hx; exact hx) H locs ls hP hS h0) (fun hc => kb hc x9 (by rw [if_neg hc] at hx; exact hx) H locs ls hP hS h0)
theorem g_icmp_ne (C : CX p R s m args meth c w own cc nL rt fr lo) {x y : Int32} {off : Int} {tgt : Nat} (hd : decode cc pc = .ok (.if_icmp .ne off, 3)) (ht : (pc : Int) + off = (tgt : Int)) (ka : x = y → GO p l e R s m args below meth c w nL f o1 (pc + 3) lv st h) (kb : ¬ x = y → GO p l e R s m args below meth c w nL f o2 tgt lv st h) : GO p l e R s m args below meth c w nL f (if x = y then o1 else o2) pc lv (.int y :: .int x :: st) h := fun x9 hx H locs ls hP hS h0 => lv_icmp_ne C.1 C.2.1 hd ht (fun hc => kb hc x9 (by rw [if_neg hc] at hx; exact hx) H locs ls hP hS h0) (fun hc => ka hc x9 (by rw [if_pos hc] at hx; exact hx) H locs ls hP hS h0)
theorem g_if_ne (C : CX p R s m args meth c w own cc nL rt fr lo) {x : Int32} {off : Int} {tgt : Nat} (hd : decode cc pc = .ok (.ifCond .ne off, 3)) (ht : (pc : Int) + off = (tgt : Int)) (ka : x = 0 → GO p l e R s m args below meth c w nL f o1 (pc + 3) lv st h) (kb : ¬ x = 0 → GO p l e R s m args below meth c w nL f o2 tgt lv st h) : GO p l e R s m args below meth c w nL f (if x = 0 then o1 else o2) pc lv (.int x :: st) h := fun x9 hx H locs ls hP hS h0 => lv_if_ne C.1 C.2.1 hd ht (fun hc => kb hc x9 (by rw [if_neg hc] at hx; exact hx) H locs ls hP hS h0) (fun hc => ka hc x9 (by rw [if_pos hc] at hx; exact hx) H locs ls hP hS h0)
theorem g_icmp_lt (C : CX p R s m args meth c w own cc nL rt fr lo) {x y : Int32} {off : Int} {tgt : Nat} (hd : decode cc pc = .ok (.if_icmp .lt off, 3)) (ht : (pc : Int) + off = (tgt : Int)) (ka : x < y → GO p l e R s m args below meth c w nL f o1 tgt lv st h) (kb : ¬ x < y → GO p l e R s m args below meth c w nL f o2 (pc + 3) lv st h) : GO p l e R s m args below meth c w nL f (if x < y then o1 else o2) pc lv (.int y :: .int x :: st) h := fun x9 hx H locs ls hP hS h0 => lv_icmp_lt C.1 C.2.1 hd ht (fun hc => ka hc x9 (by rw [if_pos hc] at hx; exact hx) H locs ls hP hS h0) (fun hc => kb hc x9 (by rw [if_neg hc] at hx; exact hx) H locs ls hP hS h0)
theorem g_if_lt (C : CX p R s m args meth c w own cc nL rt fr lo) {x : Int32} {off : Int} {tgt : Nat} (hd : decode cc pc = .ok (.ifCond .lt off, 3)) (ht : (pc : Int) + off = (tgt : Int)) (ka : x < 0 → GO p l e R s m args below meth c w nL f o1 tgt lv st h) (kb : ¬ x < 0 → GO p l e R s m args below meth c w nL f o2 (pc + 3) lv st h) : GO p l e R s m args below meth c w nL f (if x < 0 then o1 else o2) pc lv (.int x :: st) h := fun x9 hx H locs ls hP hS h0 => lv_if_lt C.1 C.2.1 hd ht (fun hc => ka hc x9 (by rw [if_pos hc] at hx; exact hx) H locs ls hP hS h0) (fun hc => kb hc x9 (by rw [if_neg hc] at hx; exact hx) H locs ls hP hS h0)
theorem g_icmp_ge (C : CX p R s m args meth c w own cc nL rt fr lo) {x y : Int32} {off : Int} {tgt : Nat} (hd : decode cc pc = .ok (.if_icmp .ge off, 3)) (ht : (pc : Int) + off = (tgt : Int)) (ka : y ≤ x → GO p l e R s m args below meth c w nL f o1 tgt lv st h) (kb : ¬ y ≤ x → GO p l e R s m args below meth c w nL f o2 (pc + 3) lv st h) : GO p l e R s m args below meth c w nL f (if y ≤ x then o1 else o2) pc lv (.int y :: .int x :: st) h := fun x9 hx H locs ls hP hS h0 => lv_icmp_ge C.1 C.2.1 hd ht (fun hc => ka hc x9 (by rw [if_pos hc] at hx; exact hx) H locs ls hP hS h0) (fun hc => kb hc x9 (by rw [if_neg hc] at hx; exact hx) H locs ls hP hS h0)
theorem g_if_ge (C : CX p R s m args meth c w own cc nL rt fr lo) {x : Int32} {off : Int} {tgt : Nat} (hd : decode cc pc = .ok (.ifCond .ge off, 3)) (ht : (pc : Int) + off = (tgt : Int)) (ka : 0 ≤ x → GO p l e R s m args below meth c w nL f o1 tgt lv st h) (kb : ¬ 0 ≤ x → GO p l e R s m args below meth c w nL f o2 (pc + 3) lv st h) : GO p l e R s m args below meth c w nL f (if 0 ≤ x then o1 else o2) pc lv (.int x :: st) h := fun x9 hx H locs ls hP hS h0 => lv_if_ge C.1 C.2.1 hd ht (fun hc => ka hc x9 (by rw [if_pos hc] at hx; exact hx) H locs ls hP hS h0) (fun hc => kb hc x9 (by rw [if_neg hc] at hx; exact hx) H locs ls hP hS h0)
theorem g_icmp_gt (C : CX p R s m args meth c w own cc nL rt fr lo) {x y : Int32} {off : Int} {tgt : Nat} (hd : decode cc pc = .ok (.if_icmp .gt off, 3)) (ht : (pc : Int) + off = (tgt : Int)) (ka : y < x → GO p l e R s m args below meth c w nL f o1 tgt lv st h) (kb : ¬ y < x → GO p l e R s m args below meth c w nL f o2 (pc + 3) lv st h) : GO p l e R s m args below meth c w nL f (if y < x then o1 else o2) pc lv (.int y :: .int x :: st) h := fun x9 hx H locs ls hP hS h0 => lv_icmp_gt C.1 C.2.1 hd ht (fun hc => ka hc x9 (by rw [if_pos hc] at hx; exact hx) H locs ls hP hS h0) (fun hc => kb hc x9 (by rw [if_neg hc] at hx; exact hx) H locs ls hP hS h0)
theorem g_if_gt (C : CX p R s m args meth c w own cc nL rt fr lo) {x : Int32} {off : Int} {tgt : Nat} (hd : decode cc pc = .ok (.ifCond .gt off, 3)) (ht : (pc : Int) + off = (tgt : Int)) (ka : 0 < x → GO p l e R s m args below meth c w nL f o1 tgt lv st h) (kb : ¬ 0 < x → GO p l e R s m args below meth c w nL f o2 (pc + 3) lv st h) : GO p l e R s m args below meth c w nL f (if 0 < x then o1 else o2) pc lv (.int x :: st) h := fun x9 hx H locs ls hP hS h0 => lv_if_gt C.1 C.2.1 hd ht (fun hc => ka hc x9 (by rw [if_pos hc] at hx; exact hx) H locs ls hP hS h0) (fun hc => kb hc x9 (by rw [if_neg hc] at hx; exact hx) H locs ls hP hS h0)
theorem g_icmp_le (C : CX p R s m args meth c w own cc nL rt fr lo) {x y : Int32} {off : Int} {tgt : Nat} (hd : decode cc pc = .ok (.if_icmp .le off, 3)) (ht : (pc : Int) + off = (tgt : Int)) (ka : x ≤ y → GO p l e R s m args below meth c w nL f o1 tgt lv st h) (kb : ¬ x ≤ y → GO p l e R s m args below meth c w nL f o2 (pc + 3) lv st h) : GO p l e R s m args below meth c w nL f (if x ≤ y then o1 else o2) pc lv (.int y :: .int x :: st) h := fun x9 hx H locs ls hP hS h0 => lv_icmp_le C.1 C.2.1 hd ht (fun hc => ka hc x9 (by rw [if_pos hc] at hx; exact hx) H locs ls hP hS h0) (fun hc => kb hc x9 (by rw [if_neg hc] at hx; exact hx) H locs ls hP hS h0)
theorem g_if_le (C : CX p R s m args meth c w own cc nL rt fr lo) {x : Int32} {off : Int} {tgt : Nat} (hd : decode cc pc = .ok (.ifCond .le off, 3)) (ht : (pc : Int) + off = (tgt : Int)) (ka : x ≤ 0 → GO p l e R s m args below meth c w nL f o1 tgt lv st h) (kb : ¬ x ≤ 0 → GO p l e R s m args below meth c w nL f o2 (pc + 3) lv st h) : GO p l e R s m args below meth c w nL f (if x ≤ 0 then o1 else o2) pc lv (.int x :: st) h := fun x9 hx H locs ls hP hS h0 => lv_if_le C.1 C.2.1 hd ht (fun hc => ka hc x9 (by rw [if_pos hc] at hx; exact hx) H locs ls hP hS h0) (fun hc => kb hc x9 (by rw [if_neg hc] at hx; exact hx) H locs ls hP hS h0)
theorem g_get (C : CX p R s m args meth c w own cc nL rt fr lo) {i ci idx : Nat} {fs : (Nat → Int32) → (Nat → Int64) → List Value} (hs : SO w i ci fs) (k : Nat) (hf : FL own idx ci k) {v : Value} (hv : (fs (h.1 i) (h.2 i))[k]? = some v) (hd : decode cc pc = .ok (.getfield idx, 3)) (kk : GO p l e R s m args below meth c w nL f o (pc + 3) lv (v :: st) h) : GO p l e R s m args below meth c w nL f o pc lv (.ref (w.2.1 i) :: st) h := fun x9 hx H locs ls hP hS h0 => by
  obtain ⟨Cn, T, N, hc, hk, hin, hl⟩ := hf
  exact va_get (D := w.1) C.1 C.2.1 C.2.2.2.2.1 hin C.2.2.2.1 C.2.2.2.2.2.2.2.1.1 hP i (by rw [wl_at hs.1, hs.2]) hc k hk (C.2.2.2.2.1 _ hl) (fun _ h9 => h9) hv hd (kk x9 hx H locs ls hP hS h0)
theorem g_putI (C : CX p R s m args meth c w own cc nL rt fr lo) {i ci idx : Nat} {fs : (Nat → Int32) → (Nat → Int64) → List Value} (hs : SO w i ci fs) (k : Nat) {ty : FieldType} (hf : FP own idx ci k ty) {v : Int32} (hset : ∀ r l, (fs r l).set k (.int v) = fs (upd r k v) l) (hn : narrow ty (.int v) = .int v) (hfit : fits ty (.int v) = true) (hlen : ∀ r l, k < (fs r l).length) (hd : decode cc pc = .ok (.putfield idx, 3)) (kk : GO p l e R s m args below meth c w nL f o (pc + 3) lv st (wr h i k v)) : GO p l e R s m args below meth c w nL f o pc lv (.int v :: .ref (w.2.1 i) :: st) h := fun x9 hx H locs ls hP hS h0 => by
  obtain ⟨Cn, T, N, ty0, hc, hk, hin, hl, ht0, hnm, hfin, hty⟩ := hf
  refine va_put (D := w.1) C.1 C.2.1 C.2.2.2.2.1 hin ty0 ht0 hnm C.2.2.2.1 C.2.2.2.2.2.2.2.1.1 hP (wl_D C.2.2.2.2.2.2.2.1.2.2.2) hS i (by rw [wl_at hs.1, hs.2]) hc k hk (C.2.2.2.2.1 _ hl) (fun _ h9 => h9) hfin hty hn hfit (hlen _ _) hd (fun H1 locs1 hP1 _ hS1 => kk x9 hx H1 locs1 ls ?_ hS1 h0)
  have e : (w.2.1 i, Sum.inr (ci, (fs (h.1 i) (h.2 i)).set k (.int v))) = ((w.2.1 i, sh w i (upd (h.1 i) k v) (h.2 i)) : Nat × va_E) := by rw [hs.2, hset (h.1 i) (h.2 i)]
  rw [e, wl_set (h' := wr h i k v) hs.1 (fun a => rfl) (fun a => by by_cases e : a = i <;> simp [wr, e])] at hP1
  exact hP1
theorem g_putJ (C : CX p R s m args meth c w own cc nL rt fr lo) {i ci idx : Nat} {fs : (Nat → Int32) → (Nat → Int64) → List Value} (hs : SO w i ci fs) (k : Nat) {ty : FieldType} (hf : FP own idx ci k ty) {v : Int64} (hset : ∀ r l, (fs r l).set k (.long v) = fs r (vp_updL l k v)) (hn : narrow ty (.long v) = .long v) (hfit : fits ty (.long v) = true) (hlen : ∀ r l, k < (fs r l).length) (hd : decode cc pc = .ok (.putfield idx, 3)) (kk : GO p l e R s m args below meth c w nL f o (pc + 3) lv st (wrl h i k v)) : GO p l e R s m args below meth c w nL f o pc lv (.long v :: .ref (w.2.1 i) :: st) h := fun x9 hx H locs ls hP hS h0 => by
  obtain ⟨Cn, T, N, ty0, hc, hk, hin, hl, ht0, hnm, hfin, hty⟩ := hf
  refine va_put (D := w.1) C.1 C.2.1 C.2.2.2.2.1 hin ty0 ht0 hnm C.2.2.2.1 C.2.2.2.2.2.2.2.1.1 hP (wl_D C.2.2.2.2.2.2.2.1.2.2.2) hS i (by rw [wl_at hs.1, hs.2]) hc k hk (C.2.2.2.2.1 _ hl) (fun _ h9 => h9) hfin hty hn hfit (hlen _ _) hd (fun H1 locs1 hP1 _ hS1 => kk x9 hx H1 locs1 ls ?_ hS1 h0)
  have e : (w.2.1 i, Sum.inr (ci, (fs (h.1 i) (h.2 i)).set k (.long v))) = ((w.2.1 i, sh w i (h.1 i) (vp_updL (h.2 i) k v)) : Nat × va_E) := by rw [hs.2, hset (h.1 i) (h.2 i)]
  rw [e, wl_set (h' := wrl h i k v) hs.1 (fun a => by by_cases e : a = i <;> simp [wrl, e]) (fun a => rfl)] at hP1
  exact hP1
theorem g_putR (C : CX p R s m args meth c w own cc nL rt fr lo) {i ci idx j : Nat} {fs : (Nat → Int32) → (Nat → Int64) → List Value} (hs : SO w i ci fs) (k : Nat) {ty : FieldType} (hf : FP own idx ci k ty) (hset : ∀ r l, (fs r l).set k (.ref (w.2.1 j)) = fs (upd r k (nI j)) l) (hn : narrow ty (.ref (w.2.1 j)) = .ref (w.2.1 j)) (hfit : fits ty (.ref (w.2.1 j)) = true) (hlen : ∀ r l, k < (fs r l).length) (hd : decode cc pc = .ok (.putfield idx, 3)) (kk : GO p l e R s m args below meth c w nL f o (pc + 3) lv st (wr h i k (nI j))) : GO p l e R s m args below meth c w nL f o pc lv (.ref (w.2.1 j) :: .ref (w.2.1 i) :: st) h := fun x9 hx H locs ls hP hS h0 => by
  obtain ⟨Cn, T, N, ty0, hc, hk, hin, hl, ht0, hnm, hfin, hty⟩ := hf
  refine va_put (D := w.1) C.1 C.2.1 C.2.2.2.2.1 hin ty0 ht0 hnm C.2.2.2.1 C.2.2.2.2.2.2.2.1.1 hP (wl_D C.2.2.2.2.2.2.2.1.2.2.2) hS i (by rw [wl_at hs.1, hs.2]) hc k hk (C.2.2.2.2.1 _ hl) (fun _ h9 => h9) hfin hty hn hfit (hlen _ _) hd (fun H1 locs1 hP1 _ hS1 => kk x9 hx H1 locs1 ls ?_ hS1 h0)
  have e : (w.2.1 i, Sum.inr (ci, (fs (h.1 i) (h.2 i)).set k (.ref (w.2.1 j)))) = ((w.2.1 i, sh w i (upd (h.1 i) k (nI j)) (h.2 i)) : Nat × va_E) := by rw [hs.2, hset]
  rw [e, wl_set (h' := wr h i k (nI j)) hs.1 (fun a => rfl) (fun a => by by_cases e : a = i <;> simp [wr, e])] at hP1
  exact hP1
theorem g_iald (C : CX p R s m args meth c w own cc nL rt fr lo) {i n : Nat} {j : Int32} (hs : SI w i n) (hd : decode cc pc = .ok (.iaload, 1)) (k : inb j n = true → GO p l e R s m args below meth c w nL f o (pc + 1) lv (.int (h.1 i j.toNatClampNeg) :: st) h) : GO p l e R s m args below meth c w nL f (if inb j n = true then o else none) pc lv (.int j :: .ref (w.2.1 i) :: st) h := g_guard (fun hb x9 hx H locs ls hP hS h0 => va_iald (D := w.1) C.1 C.2.1 C.2.2.2.2.2.2.2.1.1 hP i 0 (by rw [wl_at hs.1, hs.2]) rfl (inb_in hb) hd (k hb x9 hx H locs ls hP hS h0))
theorem g_bald (C : CX p R s m args meth c w own cc nL rt fr lo) {i n : Nat} {j : Int32} (hs : SB w i n) (hd : decode cc pc = .ok (.baload, 1)) (k : inb j n = true → GO p l e R s m args below meth c w nL f o (pc + 1) lv (.int (h.1 i j.toNatClampNeg) :: st) h) : GO p l e R s m args below meth c w nL f (if inb j n = true then o else none) pc lv (.int j :: .ref (w.2.1 i) :: st) h := g_guard (fun hb x9 hx H locs ls hP hS h0 => va_bald (D := w.1) C.1 C.2.1 C.2.2.2.2.2.2.2.1.1 hP i 1 (by rw [wl_at hs.1, hs.2]) rfl (inb_in hb) hd (k hb x9 hx H locs ls hP hS h0))
theorem g_zald (C : CX p R s m args meth c w own cc nL rt fr lo) {i n : Nat} {j : Int32} (hs : SZ w i n) (hd : decode cc pc = .ok (.baload, 1)) (k : inb j n = true → GO p l e R s m args below meth c w nL f o (pc + 1) lv (.int (h.1 i j.toNatClampNeg) :: st) h) : GO p l e R s m args below meth c w nL f (if inb j n = true then o else none) pc lv (.int j :: .ref (w.2.1 i) :: st) h := g_guard (fun hb x9 hx H locs ls hP hS h0 => va_zald (D := w.1) C.1 C.2.1 C.2.2.2.2.2.2.2.1.1 hP i 2 (by rw [wl_at hs.1, hs.2]) rfl (inb_in hb) hd (k hb x9 hx H locs ls hP hS h0))
theorem g_iast (C : CX p R s m args meth c w own cc nL rt fr lo) {i n : Nat} {j v : Int32} (hs : SI w i n) (hd : decode cc pc = .ok (.iastore, 1)) (k : inb j n = true → GO p l e R s m args below meth c w nL f o (pc + 1) lv st (wr h i j.toNatClampNeg v)) : GO p l e R s m args below meth c w nL f (if inb j n = true then o else none) pc lv (.int v :: .int j :: .ref (w.2.1 i) :: st) h := g_guard (fun hb x9 hx H locs ls hP hS h0 => by
  refine va_iast (D := w.1) C.1 C.2.1 C.2.2.2.2.2.2.2.1.1 hP (wl_D C.2.2.2.2.2.2.2.1.2.2.2) hS i 0 (by rw [wl_at hs.1, hs.2]) rfl (inb_in hb) hd (fun H1 locs1 hP1 _ hS1 => k hb x9 hx H1 locs1 ls ?_ hS1 h0)
  have e : (w.2.1 i, Sum.inl (w.2.2.1 0, n, Sum.inl (upd (h.1 i) j.toNatClampNeg v))) = ((w.2.1 i, sh w i (upd (h.1 i) j.toNatClampNeg v) (h.2 i)) : Nat × va_E) := by rw [hs.2]
  rw [e, wl_set (h' := wr h i j.toNatClampNeg v) hs.1 (fun a => rfl) (fun a => by by_cases e : a = i <;> simp [wr, e])] at hP1
  exact hP1)
theorem g_bast (C : CX p R s m args meth c w own cc nL rt fr lo) {i n : Nat} {j v : Int32} (hs : SB w i n) (hd : decode cc pc = .ok (.bastore, 1)) (k : inb j n = true → GO p l e R s m args below meth c w nL f o (pc + 1) lv st (wr h i j.toNatClampNeg (vp_nar .byte v))) : GO p l e R s m args below meth c w nL f (if inb j n = true then o else none) pc lv (.int v :: .int j :: .ref (w.2.1 i) :: st) h := g_guard (fun hb x9 hx H locs ls hP hS h0 => by
  refine va_bast (D := w.1) C.1 C.2.1 C.2.2.2.2.2.2.2.1.1 hP (wl_D C.2.2.2.2.2.2.2.1.2.2.2) hS i 1 (by rw [wl_at hs.1, hs.2]) rfl (inb_in hb) hd (fun H1 locs1 hP1 _ hS1 => k hb x9 hx H1 locs1 ls ?_ hS1 h0)
  have e : (w.2.1 i, Sum.inl (w.2.2.1 1, n, Sum.inl (upd (h.1 i) j.toNatClampNeg (vp_nar .byte v)))) = ((w.2.1 i, sh w i (upd (h.1 i) j.toNatClampNeg (vp_nar .byte v)) (h.2 i)) : Nat × va_E) := by rw [hs.2]
  rw [e, wl_set (h' := wr h i j.toNatClampNeg (vp_nar .byte v)) hs.1 (fun a => rfl) (fun a => by by_cases e : a = i <;> simp [wr, e])] at hP1
  exact hP1)
theorem g_zast (C : CX p R s m args meth c w own cc nL rt fr lo) {i n : Nat} {j v : Int32} (hs : SZ w i n) (hd : decode cc pc = .ok (.bastore, 1)) (k : inb j n = true → GO p l e R s m args below meth c w nL f o (pc + 1) lv st (wr h i j.toNatClampNeg (vp_nar .boolean v))) : GO p l e R s m args below meth c w nL f (if inb j n = true then o else none) pc lv (.int v :: .int j :: .ref (w.2.1 i) :: st) h := g_guard (fun hb x9 hx H locs ls hP hS h0 => by
  refine va_zast (D := w.1) C.1 C.2.1 C.2.2.2.2.2.2.2.1.1 hP (wl_D C.2.2.2.2.2.2.2.1.2.2.2) hS i 2 (by rw [wl_at hs.1, hs.2]) rfl (inb_in hb) hd (fun H1 locs1 hP1 _ hS1 => k hb x9 hx H1 locs1 ls ?_ hS1 h0)
  have e : (w.2.1 i, Sum.inl (w.2.2.1 2, n, Sum.inl (upd (h.1 i) j.toNatClampNeg (vp_nar .boolean v)))) = ((w.2.1 i, sh w i (upd (h.1 i) j.toNatClampNeg (vp_nar .boolean v)) (h.2 i)) : Nat × va_E) := by rw [hs.2]
  rw [e, wl_set (h' := wr h i j.toNatClampNeg (vp_nar .boolean v)) hs.1 (fun a => rfl) (fun a => by by_cases e : a = i <;> simp [wr, e])] at hP1
  exact hP1)
theorem g_aald (C : CX p R s m args meth c w own cc nL rt fr lo) {i t n : Nat} {g : Nat → Nat} {j : Int32} {cA : ClassId} {ty : FieldType} (hs : SR w i t n g) (ht : (tyL w.2.2.1)[t]? = some (w.2.2.1 t, ty)) (hr : refKind ty = true) (hd : decode cc pc = .ok (.aaload, 1)) (k : inb j n = true → GO p l e R s m args below meth c w nL f o (pc + 1) lv (.ref (w.2.1 (g j.toNatClampNeg)) :: st) h) : GO p l e R s m args below meth c w nL f (if inb j n = true then o else none) pc lv (.int j :: .ref (w.2.1 i) :: st) h := g_guard (fun hb x9 hx H locs ls hP hS h0 => by
  have hin := inb_in hb
  have hlt : j.toNatClampNeg < n := Nat.not_le.mp fun q => hin (Or.inr q)
  have ha : (wl w h)[i]? = some (w.2.1 i, .inl (w.2.2.1 t, n, .inr (.inr (.inr (.inr (fun j => some (w.2.1 (g j)))))))) := by rw [wl_at hs.1, hs.2]
  exact W.aald (v := va_rf (some (w.2.1 (g j.toNatClampNeg)))) (ty := ty) C.1 C.2.1 (hP i _ ha) ((C.2.2.2.2.2.2.2.1.1.2 t _ ht).1 n (fun j => va_rf (some (w.2.1 (g j))))) hr (fun q => by cases q) (by show ¬ (j < 0 ∨ (arrV _ _ _).slots.size ≤ _); rw [arrV_size]; exact hin) (by show (arrV _ _ _).slots[_]? = _; rw [arrV_read _ _ hlt]) rfl rfl hd (k hb x9 hx H locs ls hP hS h0))
theorem g_ialen (C : CX p R s m args meth c w own cc nL rt fr lo) {i n : Nat} (hs : SI w i n) (hd : decode cc pc = .ok (.arraylength, 1)) (k : GO p l e R s m args below meth c w nL f o (pc + 1) lv (.int (nI n) :: st) h) : GO p l e R s m args below meth c w nL f o pc lv (.ref (w.2.1 i) :: st) h := fun x9 hx H locs ls hP hS h0 => va_alen (D := w.1) C.1 C.2.1 C.2.2.2.2.2.2.2.1.1 hP i 0 (x := (n, .inl (h.1 i))) (v := nI n) (by rw [wl_at hs.1, hs.2]) rfl rfl hd (k x9 hx H locs ls hP hS h0)
theorem g_balen (C : CX p R s m args meth c w own cc nL rt fr lo) {i n : Nat} (hs : SB w i n) (hd : decode cc pc = .ok (.arraylength, 1)) (k : GO p l e R s m args below meth c w nL f o (pc + 1) lv (.int (nI n) :: st) h) : GO p l e R s m args below meth c w nL f o pc lv (.ref (w.2.1 i) :: st) h := fun x9 hx H locs ls hP hS h0 => va_alen (D := w.1) C.1 C.2.1 C.2.2.2.2.2.2.2.1.1 hP i 1 (x := (n, .inl (h.1 i))) (v := nI n) (by rw [wl_at hs.1, hs.2]) rfl rfl hd (k x9 hx H locs ls hP hS h0)
theorem g_gets (C : CX p R s m args meth c w own cc nL rt fr lo) {j idx : Nat} (hj : j < 4) (hm : (own, idx, sN j) ∈ nestF) (hd : decode cc pc = .ok (.getstatic idx, 3)) (k : GO p l e R s m args below meth c w nL f o (pc + 3) lv (.ref (w.2.2.2 j) :: st) h) : GO p l e R s m args below meth c w nL f o pc lv st h := fun x9 hx H locs ls hP hS h0 => by
  obtain ⟨hK, hN, hF, hw⟩ := C.2.2.2.2.2.2.2.1
  exact va_getsN C.1 C.2.1 (hF j hj).1 hS C.2.2.2.1 (va_Nw.use rfl (hN.2 _ hm)) (fun _ h9 => h9) hd (k x9 hx H locs ls hP hS h0)
theorem g_sld (C : CX p R s m args meth c w own cc nL rt fr lo) {j : Nat} {i : Int32} (hj : j < 4) (hd : decode cc pc = .ok (.iaload, 1)) (k : inb i 4 = true → GO p l e R s m args below meth c w nL f o (pc + 1) lv (.int (sv j i.toNatClampNeg) :: st) h) : GO p l e R s m args below meth c w nL f (if inb i 4 = true then o else none) pc lv (.int i :: .ref (w.2.2.2 j) :: st) h := g_guard (fun hb x9 hx H locs ls hP hS h0 => by
  obtain ⟨hK, hN, hF, hw⟩ := C.2.2.2.2.2.2.2.1
  obtain ⟨h1, h2⟩ := hF j hj
  exact va_ti C.1 C.2.1 h2 hS (inb_in hb) rfl hd (k hb x9 hx H locs ls hP hS h0))
theorem g_max (C : CX p R s m args meth c w own cc nL rt fr lo) {x y : Int32} {idx : Nat} (hw : Cond.methodLink own idx Lib.Math.max.name ∈ wsG) (hw2 : Cond.static Lib.Math.max.name ∈ wsG) (hw3 : Cond.initialized "java/lang/Math" ∈ wsG) (hw4 : Cond.code Lib.Math.max.name Lib.Math.max.code 2 (some .int) ∈ wsG) (hfr : 1 ≤ fr) (hlo : 21 ≤ lo) (hst : (st.map fun v => v.category).sum ≤ 8) (hd : decode cc pc = .ok (.invokestatic idx, 3)) (k : GO p l e R s m args below meth c w nL f o (pc + 3) lv (.int (imax x y) :: st) h) : GO p l e R s m args below meth c w nL f o pc lv (.int y :: .int x :: st) h := fun x9 hx H locs ls hP hS h0 => by
  have hfr2 : 1 ≤ R.frames := by rw [C.2.2.2.2.2.2.2.2.1]; exact hfr
  have hlo2 : (st.map fun v => v.category).sum + 13 ≤ R.locals := by rw [C.2.2.2.2.2.2.2.2.2]; omega
  exact va_mmax C.1 C.2.1 (by rw [C.2.2.1]; exact h0.1.symm) C.2.2.2.1 (C.2.2.2.2.1 _ hw) (C.2.2.2.2.1 _ hw2) (C.2.2.2.2.1 _ hw3) (C.2.2.2.2.1 _ hw4) hfr2 hlo2 (Nat.zero_le _) (Nat.zero_le _) hd (k x9 hx H locs ls hP hS h0)
theorem g_min (C : CX p R s m args meth c w own cc nL rt fr lo) {x y : Int32} {idx : Nat} (hw : Cond.methodLink own idx Lib.Math.min.name ∈ wsG) (hw2 : Cond.static Lib.Math.min.name ∈ wsG) (hw3 : Cond.initialized "java/lang/Math" ∈ wsG) (hw4 : Cond.code Lib.Math.min.name Lib.Math.min.code 2 (some .int) ∈ wsG) (hfr : 1 ≤ fr) (hlo : 21 ≤ lo) (hst : (st.map fun v => v.category).sum ≤ 8) (hd : decode cc pc = .ok (.invokestatic idx, 3)) (k : GO p l e R s m args below meth c w nL f o (pc + 3) lv (.int (imin x y) :: st) h) : GO p l e R s m args below meth c w nL f o pc lv (.int y :: .int x :: st) h := fun x9 hx H locs ls hP hS h0 => by
  have hfr2 : 1 ≤ R.frames := by rw [C.2.2.2.2.2.2.2.2.1]; exact hfr
  have hlo2 : (st.map fun v => v.category).sum + 13 ≤ R.locals := by rw [C.2.2.2.2.2.2.2.2.2]; omega
  exact va_mmin C.1 C.2.1 (by rw [C.2.2.1]; exact h0.1.symm) C.2.2.2.1 (C.2.2.2.2.1 _ hw) (C.2.2.2.2.1 _ hw2) (C.2.2.2.2.1 _ hw3) (C.2.2.2.2.1 _ hw4) hfr2 hlo2 (Nat.zero_le _) (Nat.zero_le _) hd (k x9 hx H locs ls hP hS h0)
theorem cpok_spec {sp dp n : Int32} {n0 n1 : Nat} (h : cpok sp dp n n0 n1 = true) : ¬ sp < 0 ∧ ¬ dp < 0 ∧ ¬ n < 0 ∧ sp.toNatClampNeg + n.toNatClampNeg ≤ n0 ∧ dp.toNatClampNeg + n.toNatClampNeg ≤ n1 := by
  unfold cpok at h
  simp only [Bool.and_eq_true, decide_eq_true_eq] at h
  exact ⟨le_nlt h.1.1.1.1, le_nlt h.1.1.1.2, le_nlt h.1.1.2, h.1.2, h.2⟩
theorem g_copy (C : CX p R s m args meth c w own cc nL rt fr lo) {i j n0 n1 idx : Nat} {sp dp n : Int32} (hi : SI w i n0) (hj : SI w j n1) (hw : Cond.methodLink own idx arraycopyName ∈ wsG) (hw2 : Cond.native arraycopyName ∈ wsG) (hw3 : Cond.static arraycopyName ∈ wsG) (hw4 : Cond.initialized "java/lang/System" ∈ wsG) (hfr : 1 ≤ fr) (hlo : 8 + (nativeFrameWords "java/lang/System" "arraycopy" 5 + 11) ≤ lo) (hst : (st.map fun v => v.category).sum ≤ 8) (hd : decode cc pc = .ok (.invokestatic idx, 3)) (k : cpok sp dp n n0 n1 = true → GO p l e R s m args below meth c w nL f o (pc + 3) lv st (wrow h j (va_cpy (h.1 i) (h.1 j) sp.toNatClampNeg dp.toNatClampNeg n.toNatClampNeg))) : GO p l e R s m args below meth c w nL f (if cpok sp dp n n0 n1 = true then o else none) pc lv (.int n :: .int dp :: .ref (w.2.1 j) :: .int sp :: .ref (w.2.1 i) :: st) h := g_guard (fun hb x9 hx H locs ls hP hS h0 => by
  obtain ⟨c1, c2, c3, c4, c5⟩ := cpok_spec hb
  have hfr2 : 1 ≤ R.frames := by rw [C.2.2.2.2.2.2.2.2.1]; exact hfr
  have hlo2 : (st.map fun v => v.category).sum + (nativeFrameWords "java/lang/System" "arraycopy" 5 + 11) ≤ R.locals := by rw [C.2.2.2.2.2.2.2.2.2]; omega
  refine va_copyi (D := w.1) (ty := .int) C.1 C.2.1 (by rw [C.2.2.1]; exact h0.1.symm) C.2.2.2.1 (C.2.2.2.2.1 _ hw) (C.2.2.2.2.1 _ hw2) (C.2.2.2.2.1 _ hw3) (C.2.2.2.2.1 _ hw4) C.2.2.2.2.2.2.2.1.1 hP (wl_D C.2.2.2.2.2.2.2.1.2.2.2) hS i j 0 0 (by rw [wl_at hi.1, hi.2]) (by rw [wl_at hj.1, hj.2]) rfl rfl rfl c1 c2 c3 c4 c5 (fun _ _ => rfl) hfr2 hlo2 hd (fun H1 locs1 hP1 _ hS1 => k hb x9 hx H1 locs1 ls ?_ hS1 h0)
  have e : (w.2.1 j, Sum.inl (w.2.2.1 0, n1, Sum.inl (va_cpy (h.1 i) (h.1 j) sp.toNatClampNeg dp.toNatClampNeg n.toNatClampNeg))) = ((w.2.1 j, sh w j (va_cpy (h.1 i) (h.1 j) sp.toNatClampNeg dp.toNatClampNeg n.toNatClampNeg) (h.2 j)) : Nat × va_E) := by rw [hj.2]
  rw [e, wl_set (h' := wrow h j (va_cpy (h.1 i) (h.1 j) sp.toNatClampNeg dp.toNatClampNeg n.toNatClampNeg)) hj.1 (fun a => rfl) (fun a => by by_cases e : a = j <;> simp [wrow, e])] at hP1
  exact hP1)
theorem g_copyS (C : CX p R s m args meth c w own cc nL rt fr lo) {i j n1 idx : Nat} {sp dp n : Int32} (hi : i < 4) (hj : SI w j n1) (hw : Cond.methodLink own idx arraycopyName ∈ wsG) (hw2 : Cond.native arraycopyName ∈ wsG) (hw3 : Cond.static arraycopyName ∈ wsG) (hw4 : Cond.initialized "java/lang/System" ∈ wsG) (hfr : 1 ≤ fr) (hlo : 8 + (nativeFrameWords "java/lang/System" "arraycopy" 5 + 11) ≤ lo) (hst : (st.map fun v => v.category).sum ≤ 8) (hd : decode cc pc = .ok (.invokestatic idx, 3)) (k : cpok sp dp n 4 n1 = true → GO p l e R s m args below meth c w nL f o (pc + 3) lv st (wrow h j (va_cpy (sv i) (h.1 j) sp.toNatClampNeg dp.toNatClampNeg n.toNatClampNeg))) : GO p l e R s m args below meth c w nL f (if cpok sp dp n 4 n1 = true then o else none) pc lv (.int n :: .int dp :: .ref (w.2.1 j) :: .int sp :: .ref (w.2.2.2 i) :: st) h := g_guard (fun hb x9 hx H locs ls hP hS h0 => by
  obtain ⟨c1, c2, c3, c4, c5⟩ := cpok_spec hb
  have hfr2 : 1 ≤ R.frames := by rw [C.2.2.2.2.2.2.2.2.1]; exact hfr
  have hlo2 : (st.map fun v => v.category).sum + (nativeFrameWords "java/lang/System" "arraycopy" 5 + 11) ≤ R.locals := by rw [C.2.2.2.2.2.2.2.2.2]; omega
  obtain ⟨h1, h2⟩ := C.2.2.2.2.2.2.2.1.2.2.1 i hi
  refine wt_copy (D := w.1) C.1 C.2.1 (by rw [C.2.2.1]; exact h0.1.symm) C.2.2.2.1 (C.2.2.2.2.1 _ hw) (C.2.2.2.2.1 _ hw2) (C.2.2.2.2.1 _ hw3) (C.2.2.2.2.1 _ hw4) C.2.2.2.2.2.2.2.1.1 hP (wl_D C.2.2.2.2.2.2.2.1.2.2.2) hS h2 j 0 (by rw [wl_at hj.1, hj.2]) rfl c1 c2 c3 c4 c5 (fun _ _ => rfl) hfr2 hlo2 hd (fun H1 locs1 hP1 _ hS1 => k hb x9 hx H1 locs1 ls ?_ hS1 h0)
  have e : (w.2.1 j, Sum.inl (w.2.2.1 0, n1, Sum.inl (va_cpy (sv i) (h.1 j) sp.toNatClampNeg dp.toNatClampNeg n.toNatClampNeg))) = ((w.2.1 j, sh w j (va_cpy (sv i) (h.1 j) sp.toNatClampNeg dp.toNatClampNeg n.toNatClampNeg) (h.2 j)) : Nat × va_E) := by rw [hj.2]
  rw [e, wl_set (h' := wrow h j (va_cpy (sv i) (h.1 j) sp.toNatClampNeg dp.toNatClampNeg n.toNatClampNeg)) hj.1 (fun a => rfl) (fun a => by by_cases e : a = j <;> simp [wrow, e])] at hP1
  exact hP1)
theorem g_iret (C : CX p R s m args meth c w own cc nL (some .int) fr lo) {r : Int32} (hd : decode cc pc = .ok (.ireturn, 1)) : GO p l e R s m args below meth c w nL (fI h) (some r) pc lv [.int r] h := fun x9 hx H locs ls hP hS h0 => by
  cases hx
  exact W.iret C.1 C.2.1 C.2.2.2.2.2.1 (fun t ht hW => ⟨⟨rfl, by rw [ht]; exact hP, KS.go C.2.2.2.2.2.2.2.1 hW (by rw [ht]; exact hS.1) (fun a h1 h2 => by rw [ht]; exact hS.2.1 a h1 h2)⟩, hS.F ht⟩) hS.2.2 hd C.2.2.2.2.2.2.1
theorem g_iretT (C : CX p R s m args meth c w own cc nL (some .int) fr lo) {r : Int32} (hd : decode cc pc = .ok (.ireturn, 1)) : GO p l e R s m args below meth c w nL fIT (some (r, h)) pc lv [.int r] h := fun x9 hx H locs ls hP hS h0 => by
  cases hx
  exact W.iret C.1 C.2.1 C.2.2.2.2.2.1 (fun t ht hW => ⟨⟨rfl, by rw [ht]; exact hP, KS.go C.2.2.2.2.2.2.2.1 hW (by rw [ht]; exact hS.1) (fun a h1 h2 => by rw [ht]; exact hS.2.1 a h1 h2)⟩, hS.F ht⟩) hS.2.2 hd C.2.2.2.2.2.2.1
theorem g_zret (C : CX p R s m args meth c w own cc nL (some .boolean) fr lo) {r : Int32} (hd : decode cc pc = .ok (.ireturn, 1)) (hz : isZ r = true) : GO p l e R s m args below meth c w nL (fI h) (some r) pc lv [.int r] h := fun x9 hx H locs ls hP hS h0 => by
  cases hx
  exact W.zret C.1 C.2.1 C.2.2.2.2.2.1 (isZ_nar hz) (fun t ht hW => ⟨⟨rfl, by rw [ht]; exact hP, KS.go C.2.2.2.2.2.2.2.1 hW (by rw [ht]; exact hS.1) (fun a h1 h2 => by rw [ht]; exact hS.2.1 a h1 h2)⟩, hS.F ht⟩) hS.2.2 hd C.2.2.2.2.2.2.1
theorem g_zretT (C : CX p R s m args meth c w own cc nL (some .boolean) fr lo) {r : Int32} (hd : decode cc pc = .ok (.ireturn, 1)) (hz : isZ r = true) : GO p l e R s m args below meth c w nL fIT (some (r, h)) pc lv [.int r] h := fun x9 hx H locs ls hP hS h0 => by
  cases hx
  exact W.zret C.1 C.2.1 C.2.2.2.2.2.1 (isZ_nar hz) (fun t ht hW => ⟨⟨rfl, by rw [ht]; exact hP, KS.go C.2.2.2.2.2.2.2.1 hW (by rw [ht]; exact hS.1) (fun a h1 h2 => by rw [ht]; exact hS.2.1 a h1 h2)⟩, hS.F ht⟩) hS.2.2 hd C.2.2.2.2.2.2.1
theorem g_lret (C : CX p R s m args meth c w own cc nL (some .long) fr lo) {r : Int64} (hd : decode cc pc = .ok (.lreturn, 1)) : GO p l e R s m args below meth c w nL (fJ h) (some r) pc lv [.long r] h := fun x9 hx H locs ls hP hS h0 => by
  cases hx
  exact W.lret C.1 C.2.1 C.2.2.2.2.2.1 (fun t ht hW => ⟨⟨rfl, by rw [ht]; exact hP, KS.go C.2.2.2.2.2.2.2.1 hW (by rw [ht]; exact hS.1) (fun a h1 h2 => by rw [ht]; exact hS.2.1 a h1 h2)⟩, hS.F ht⟩) hS.2.2 hd C.2.2.2.2.2.2.1
theorem g_lretT (C : CX p R s m args meth c w own cc nL (some .long) fr lo) {r : Int64} (hd : decode cc pc = .ok (.lreturn, 1)) : GO p l e R s m args below meth c w nL fJT (some (r, h)) pc lv [.long r] h := fun x9 hx H locs ls hP hS h0 => by
  cases hx
  exact W.lret C.1 C.2.1 C.2.2.2.2.2.1 (fun t ht hW => ⟨⟨rfl, by rw [ht]; exact hP, KS.go C.2.2.2.2.2.2.2.1 hW (by rw [ht]; exact hS.1) (fun a h1 h2 => by rw [ht]; exact hS.2.1 a h1 h2)⟩, hS.F ht⟩) hS.2.2 hd C.2.2.2.2.2.2.1
theorem g_vret (C : CX p R s m args meth c w own cc nL (none) fr lo)  (hd : decode cc pc = .ok (.return_, 1)) : GO p l e R s m args below meth c w nL fV (some h) pc lv [] h := fun x9 hx H locs ls hP hS h0 => by
  cases hx
  exact W.vret C.1 C.2.1 C.2.2.2.2.2.1 (fun t ht hW => ⟨⟨rfl, by rw [ht]; exact hP, KS.go C.2.2.2.2.2.2.2.1 hW (by rw [ht]; exact hS.1) (fun a h1 h2 => by rw [ht]; exact hS.2.1 a h1 h2)⟩, hS.F ht⟩) hS.2.2 hd C.2.2.2.2.2.2.1
theorem g_call {f1 : ρ1 → Option Value × TT} {oc : Option ρ1} {g : ρ1 → Option ρ} {av rest st0 : List Value} (hrun : ∀ x1, oc = some x1 → ∀ (H : Heap) (locs : List Loc) (ls : Array Slot), va_P w.1 vwCl (wl w h) H → va_S (AA w) s.heap H locs → lv_has ls nL lv → va_Run p l e R s m args below meth c H locs 0 0 0 0 (F0 m pc ls st0) rest (QG w (f1 x1) av.toArray) (AA w)) (k : ∀ x1, GO p l e R s m args below meth c w nL f (g x1) (pc + 3) lv ((f1 x1).1.toList ++ rest) (f1 x1).2) : GO p l e R s m args below meth c w nL f (oc.bind g) pc lv st0 h := fun x9 hx H locs ls hP hS h0 => by
  obtain ⟨x1, hx1, hx2⟩ := Option.bind_eq_some_iff.mp hx
  have hr := hrun x1 hx1 H locs ls hP hS h0
  intro T hT X
  obtain ⟨v, st₀, t, T', L, e0, X', hL, e1, e2, ⟨⟨hv, hP2, hK2⟩, hz, hk⟩, stp⟩ := hr T hT X
  cases hv
  rw [e0] at hz hk
  have hS2 : va_S (AA w) s.heap T'.heap (locs ++ L) := ⟨Nat.le_trans hS.1 (by rw [e1]; exact hz), fun q h1 h2 => by rw [e1, hk q (Nat.lt_of_lt_of_le h1 hS.1) h2]; exact hS.2.1 q h1 h2, fun q hq => by
      rcases List.mem_append.mp hq with h | h
      · exact hS.2.2 q h
      · exact hL q h⟩
  obtain ⟨t2, a1, b1⟩ := k x1 x9 hx2 T'.heap (locs ++ L) ls (by rw [e1]; exact hP2) hS2 h0 T' rfl X'
  exact ⟨t2, stp t2 a1, b1⟩
theorem g_pre {av : List Value} {H : Heap} {locs : List Loc} (C : CX p R s m args meth c w own cc nL rt fr lo) (hP : va_P w.1 vwCl (wl w h) H) (hS : va_S (AA w) s.heap H locs) : ∀ U : State, U.heap = H → s.WarmedH U.vm → PG w av h av.toArray U := fun U hU hW => ⟨rfl, by rw [hU]; exact hP, KS.go C.2.2.2.2.2.2.2.1 hW (by rw [hU]; exact hS.1) (fun a h1 h2 => by rw [hU]; exact hS.2.1 a h1 h2)⟩
theorem g_runV {f1 : ρ1 → Option Value × TT} {oc : Option ρ1} {y : MethodName} {bytes : ByteArray} {maxL n idx i ci fr1 lo1 : Nat} {ret : Option FieldType} {As rest : List Value} {fs : (Nat → Int32) → (Nat → Int64) → List Value} {T0 : u_T} {N0 : Nat} (C : CX p R s m args meth c w own cc nL rt fr lo) (hm : MV own idx y bytes maxL ret n) (hM : ∀ x1, oc = some x1 → Met l y (Cond.code y bytes maxL ret :: wsG) { frames := fr1, cells := 0, slots := 0, locals := lo1 } (PG w (.ref (w.2.1 i) :: As) h) (QG w (f1 x1)) 0 0 (AA w)) (hs : SO w i ci fs) (hc : vwCl[ci]? = some (y.cls, T0, N0)) (hroom : fr1 + 1 ≤ fr ∧ 8 + (maxL + 11) + lo1 ≤ lo) (hn : As.length = n) {st0 : List Value} (hst : st0 = As.reverse ++ .ref (w.2.1 i) :: rest) (hw : (rest.map fun v => v.category).sum ≤ 8) (hd : decode cc pc = .ok (.invokevirtual idx, 3)) : ∀ x1, oc = some x1 → ∀ (H : Heap) (locs : List Loc) (ls : Array Slot), va_P w.1 vwCl (wl w h) H → va_S (AA w) s.heap H locs → lv_has ls nL lv → va_Run p l e R s m args below meth c H locs 0 0 0 0 (F0 m pc ls st0) rest (QG w (f1 x1) (Value.ref (w.2.1 i) :: As).toArray) (AA w) := by
  intro x1 hx1 H locs ls hP hS h0
  subst hst
  obtain ⟨m1, m2, m3, m4, m5, m6⟩ := hm
  exact va_runV ⟨C.1, C.2.1, C.2.2.1, C.2.2.2.1, C.2.2.2.2.1⟩ (hM x1 hx1) ⟨callB_of n C.2.2.2.2.1 (goodG m5) rfl rfl rfl (C.2.2.2.2.1 _ m4) (C.2.2.2.2.1 _ m1) m6 (by rw [C.2.2.2.2.2.2.2.2.1, C.2.2.2.2.2.2.2.2.2]; exact hroom), C.2.2.2.2.1 _ m2, C.2.2.2.2.1 _ m3⟩ ⟨PG.blind, va_recv C.2.2.2.2.2.2.2.1.1 hP (ci := ci) (q0 := i) hc (by rw [wl_at hs.1, hs.2]), g_pre C hP hS⟩ rfl hn h0.1 rfl (lv_room hw) hd ⟨Nat.zero_le _, Nat.zero_le _⟩
theorem g_runS {f1 : ρ1 → Option Value × TT} {oc : Option ρ1} {y : MethodName} {bytes : ByteArray} {maxL n idx fr1 lo1 : Nat} {ret : Option FieldType} {As rest : List Value} (C : CX p R s m args meth c w own cc nL rt fr lo) (hm : MS own idx y bytes maxL ret n) (hM : ∀ x1, oc = some x1 → Met l y (Cond.code y bytes maxL ret :: wsG) { frames := fr1, cells := 0, slots := 0, locals := lo1 } (PG w As h) (QG w (f1 x1)) 0 0 (AA w)) (hroom : fr1 + 1 ≤ fr ∧ 8 + (maxL + 11) + lo1 ≤ lo) (hn : As.length = n) {st0 : List Value} (hst : st0 = As.reverse ++ rest) (hw : (rest.map fun v => v.category).sum ≤ 8) (hd : decode cc pc = .ok (.invokestatic idx, 3)) : ∀ x1, oc = some x1 → ∀ (H : Heap) (locs : List Loc) (ls : Array Slot), va_P w.1 vwCl (wl w h) H → va_S (AA w) s.heap H locs → lv_has ls nL lv → va_Run p l e R s m args below meth c H locs 0 0 0 0 (F0 m pc ls st0) rest (QG w (f1 x1) As.toArray) (AA w) := by
  intro x1 hx1 H locs ls hP hS h0
  subst hst
  obtain ⟨m1, m2, m4, m5, m6⟩ := hm
  exact va_runS ⟨C.1, C.2.1, C.2.2.1, C.2.2.2.1, C.2.2.2.2.1⟩ (hM x1 hx1) ⟨callB_of n C.2.2.2.2.1 (goodG m5) rfl rfl rfl (C.2.2.2.2.1 _ m4) (C.2.2.2.2.1 _ m1) m6 (by rw [C.2.2.2.2.2.2.2.2.1, C.2.2.2.2.2.2.2.2.2]; exact hroom), C.2.2.2.2.1 _ m2⟩ ⟨PG.blind, g_pre C hP hS⟩ rfl hn h0.1 rfl (lv_room hw) hd ⟨Nat.zero_le _, Nat.zero_le _⟩
theorem g_runN {f1 : ρ1 → Option Value × TT} {oc : Option ρ1} {y : MethodName} {bytes : ByteArray} {maxL n idx fr1 lo1 : Nat} {ret : Option FieldType} {As rest : List Value} (C : CX p R s m args meth c w own cc nL rt fr lo) (hm : MN own idx y bytes maxL ret n) (hM : ∀ x1, oc = some x1 → Met l y (Cond.code y bytes maxL ret :: wsG) { frames := fr1, cells := 0, slots := 0, locals := lo1 } (PG w As h) (QG w (f1 x1)) 0 0 (AA w)) (hroom : fr1 + 1 ≤ fr ∧ 8 + (maxL + 11) + lo1 ≤ lo) (hn : As.length = n) {st0 : List Value} (hst : st0 = As.reverse ++ rest) (hw : (rest.map fun v => v.category).sum ≤ 8) (hd : decode cc pc = .ok (.invokestatic idx, 3)) : ∀ x1, oc = some x1 → ∀ (H : Heap) (locs : List Loc) (ls : Array Slot), va_P w.1 vwCl (wl w h) H → va_S (AA w) s.heap H locs → lv_has ls nL lv → va_Run p l e R s m args below meth c H locs 0 0 0 0 (F0 m pc ls st0) rest (QG w (f1 x1) As.toArray) (AA w) := by
  intro x1 hx1 H locs ls hP hS h0
  subst hst
  obtain ⟨m1, m2, m4, m5, m6⟩ := hm
  exact va_runSN (host := "SnowHouse") ⟨C.1, C.2.1, C.2.2.1, C.2.2.2.1, C.2.2.2.2.1⟩ (hM x1 hx1) ⟨va_cnB n C.2.2.2.2.1 (goodG m5) rfl rfl rfl (C.2.2.2.2.2.2.2.1.2.1.1 _ m1) (C.2.2.2.2.1 _ m4) m6 (by rw [C.2.2.2.2.2.2.2.2.1, C.2.2.2.2.2.2.2.2.2]; exact hroom), C.2.2.2.2.1 _ m2, trivial⟩ ⟨PG.blind, g_pre C hP hS⟩ rfl hn h0.1 rfl (lv_room hw) hd ⟨Nat.zero_le _, Nat.zero_le _⟩
theorem g_ite {b : Prop} [Decidable b] (ka : b → GO p l e R s m args below meth c w nL f o1 pc lv st h) (kb : ¬ b → GO p l e R s m args below meth c w nL f o2 pc lv st h) : GO p l e R s m args below meth c w nL f (if b then o1 else o2) pc lv st h := fun x hx H locs ls hP hS h0 => by
  by_cases hb : b
  · rw [if_pos hb] at hx
    exact ka hb x hx H locs ls hP hS h0
  · rw [if_neg hb] at hx
    exact kb hb x hx H locs ls hP hS h0
theorem g_tabIn (C : CX p R s m args meth c w own cc nL rt fr lo) {dflt a b : Int} {offs : Array Int} {len tgt : Nat} {x v : Int32} {off : Int} (hd : decode cc pc = .ok (.tableswitch dflt a b offs, len)) (hv : x = v) (h1 : ¬ v.toInt < a) (h2 : ¬ b < v.toInt) (ho : offs[(v.toInt - a).toNat]? = some off) (ht : (pc : Int) + off = (tgt : Int)) (k : GO p l e R s m args below meth c w nL f o tgt lv st h) : GO p l e R s m args below meth c w nL f o pc lv (.int x :: st) h := fun x9 hx H locs ls hP hS h0 => by
  subst hv
  exact lv_tableIn C.1 C.2.1 hd h1 h2 ho ht (k x9 hx H locs ls hP hS h0)
theorem g_tabOut (C : CX p R s m args meth c w own cc nL rt fr lo) {dflt a b : Int} {offs : Array Int} {len tgt : Nat} {x : Int32} (hd : decode cc pc = .ok (.tableswitch dflt a b offs, len)) (hv : x.toInt < a ∨ b < x.toInt) (ht : (pc : Int) + dflt = (tgt : Int)) (k : GO p l e R s m args below meth c w nL f o tgt lv st h) : GO p l e R s m args below meth c w nL f o pc lv (.int x :: st) h := fun x9 hx H locs ls hP hS h0 => lv_tableOut C.1 C.2.1 hd hv ht (k x9 hx H locs ls hP hS h0)
theorem g_callI {oc : Option Int32} {g : Int32 → Option ρ} {av rest st0 : List Value} (hrun : ∀ x1, oc = some x1 → ∀ (H : Heap) (locs : List Loc) (ls : Array Slot), va_P w.1 vwCl (wl w h) H → va_S (AA w) s.heap H locs → lv_has ls nL lv → va_Run p l e R s m args below meth c H locs 0 0 0 0 (F0 m pc ls st0) rest (QG w (fI h x1) av.toArray) (AA w)) (k : ∀ r, GO p l e R s m args below meth c w nL f (g r) (pc + 3) lv (.int r :: rest) h) : GO p l e R s m args below meth c w nL f (oc.bind g) pc lv st0 h := g_call (f1 := fI h) hrun (fun x1 => k x1)
theorem g_callJ {oc : Option Int64} {g : Int64 → Option ρ} {av rest st0 : List Value} (hrun : ∀ x1, oc = some x1 → ∀ (H : Heap) (locs : List Loc) (ls : Array Slot), va_P w.1 vwCl (wl w h) H → va_S (AA w) s.heap H locs → lv_has ls nL lv → va_Run p l e R s m args below meth c H locs 0 0 0 0 (F0 m pc ls st0) rest (QG w (fJ h x1) av.toArray) (AA w)) (k : ∀ r, GO p l e R s m args below meth c w nL f (g r) (pc + 3) lv (.long r :: rest) h) : GO p l e R s m args below meth c w nL f (oc.bind g) pc lv st0 h := g_call (f1 := fJ h) hrun (fun x1 => k x1)
theorem g_callIT {oc : Option (Int32 × TT)} {g : Int32 × TT → Option ρ} {av rest st0 : List Value} (hrun : ∀ x1, oc = some x1 → ∀ (H : Heap) (locs : List Loc) (ls : Array Slot), va_P w.1 vwCl (wl w h) H → va_S (AA w) s.heap H locs → lv_has ls nL lv → va_Run p l e R s m args below meth c H locs 0 0 0 0 (F0 m pc ls st0) rest (QG w (fIT x1) av.toArray) (AA w)) (k : ∀ q, GO p l e R s m args below meth c w nL f (g q) (pc + 3) lv (.int q.1 :: rest) q.2) : GO p l e R s m args below meth c w nL f (oc.bind g) pc lv st0 h := g_call (f1 := fIT) hrun (fun x1 => k x1)
theorem g_callJT {oc : Option (Int64 × TT)} {g : Int64 × TT → Option ρ} {av rest st0 : List Value} (hrun : ∀ x1, oc = some x1 → ∀ (H : Heap) (locs : List Loc) (ls : Array Slot), va_P w.1 vwCl (wl w h) H → va_S (AA w) s.heap H locs → lv_has ls nL lv → va_Run p l e R s m args below meth c H locs 0 0 0 0 (F0 m pc ls st0) rest (QG w (fJT x1) av.toArray) (AA w)) (k : ∀ q, GO p l e R s m args below meth c w nL f (g q) (pc + 3) lv (.long q.1 :: rest) q.2) : GO p l e R s m args below meth c w nL f (oc.bind g) pc lv st0 h := g_call (f1 := fJT) hrun (fun x1 => k x1)
theorem g_callV {oc : Option TT} {g : TT → Option ρ} {av rest st0 : List Value} (hrun : ∀ x1, oc = some x1 → ∀ (H : Heap) (locs : List Loc) (ls : Array Slot), va_P w.1 vwCl (wl w h) H → va_S (AA w) s.heap H locs → lv_has ls nL lv → va_Run p l e R s m args below meth c H locs 0 0 0 0 (F0 m pc ls st0) rest (QG w (fV x1) av.toArray) (AA w)) (k : ∀ h1, GO p l e R s m args below meth c w nL f (g h1) (pc + 3) lv rest h1) : GO p l e R s m args below meth c w nL f (oc.bind g) pc lv st0 h := g_call (f1 := fV) hrun (fun x1 => k x1)
end GOS
theorem tab_out {x : Int32} {a b : Int} (ha : -2147483648 ≤ a) (hb : b < 2147483648) (h : ∀ j : Int, a ≤ j → j ≤ b → ¬ x = Int32.ofInt j) : x.toInt < a ∨ b < x.toInt := by
  by_cases h1 : x.toInt < a
  · exact Or.inl h1
  · by_cases h2 : b < x.toInt
    · exact Or.inr h2
    · exact absurd (Int32.ofInt_toInt x).symm (h x.toInt (by omega) (by omega))
theorem m_entry {ρ : Type} {l : Launch} {y : MethodName} {own : String} {cc : ByteArray} {maxL fr lo : Nat} {rt : Option FieldType} {av : List Value} {w : WK} {h : TT} {f : ρ → Option Value × TT} {o : Option ρ} {x : ρ} (hx : o = some x) (hpl : plainName y.cls = true) (hcls : y.cls = own) (hlen : (lg_sl av).length ≤ maxL)
    (body : ∀ p e s m args below meth c, CX p (headSpec (Cond.code y cc maxL rt :: wsG) { frames := fr, cells := 0, slots := 0, locals := lo }).room s m args meth c w own cc maxL rt fr lo → GO p l e (headSpec (Cond.code y cc maxL rt :: wsG) { frames := fr, cells := 0, slots := 0, locals := lo }).room s m args below meth c w maxL f o 0 (lv_args 0 av) [] h) :
    Met l y (Cond.code y cc maxL rt :: wsG) { frames := fr, cells := 0, slots := 0, locals := lo } (PG w av h) (QG w (f x)) 0 0 (AA w) := by
  subst hcls
  refine Met.ofW (cc := cc) (maxL := maxL) (ret := rt) hpl rfl ?_
  intro p e s m args below meth c s₁ B hml hv
  obtain ⟨rfl, hP, hK⟩ := hv
  have hts := atoms_spec (ws := Cond.code y cc maxL rt :: wsG) B.pre
  have hown : s.vm.findClass y.cls = some m.cls := findClass_of_methodNamed B.named
  have C : CX p (headSpec (Cond.code y cc maxL rt :: wsG) { frames := fr, cells := 0, slots := 0, locals := lo }).room s m av.toArray meth c w y.cls cc maxL rt fr lo := ⟨B.exec, B.bytes, hml, hown, fun x hx => hts x (List.mem_cons_of_mem _ hx), B.returns, B.notSynchronized, hK, rfl, rfl⟩
  rw [lg_entry_eq]
  exact body p e s m av.toArray below meth c C x hx s.heap [] _ hP va_S.rf (lv_entry av hlen)
