/-- SnowHouse.isBelow(II)Z -/
def f_X7_isBelow (h : TT) (x0 : Int32) (x1 : Int32) : Option Int32 := (if x0 < 0 then some (0 : Int32) else (if x1 ≤ x0 then some (0 : Int32) else some (1 : Int32)))
set_option maxRecDepth 20000 in
theorem m_X7_isBelow {l : Launch} {w : WK} {h : TT} {x0 : Int32} {x1 : Int32} {x : Int32} (hx : f_X7_isBelow h x0 x1 = some x)  : Met l yX7_isBelow (Cond.code yX7_isBelow cX7_isBelow 2 (some .boolean) :: wsG) { frames := 0, cells := 0, slots := 0, locals := 0 } (PG w [.int x0, .int x1] h) (QG w ((fI h) x)) 0 0 (AA w) := by
  refine m_entry (own := RX7) (f := (fI h)) hx (by decide) rfl (Nat.le_of_ble_eq_true rfl) (fun p e s m args below meth c C => ?_)
  show GO p l e _ s m args below meth c w 2 (fI h) (f_X7_isBelow h x0 x1) 0 [(0, .int x0), (1, .int x1)] [] h
  unfold f_X7_isBelow
  refine g_iload_n (pc := 0) C 0 rfl dX7_isBelow_0 rfl ?_
  refine g_if_lt (pc := 1) (tgt := 13) C dX7_isBelow_1 (by decide) (fun hc1 => ?_) (fun hc1 => ?_)
  · refine g_iconst (pc := 13) (v := 0) C dX7_isBelow_13 kc_0 ?_
    exact g_zret C dX7_isBelow_14 rfl
  · refine g_iload_n (pc := 4) C 0 rfl dX7_isBelow_4 rfl ?_
    refine g_iload_n (pc := 5) C 1 rfl dX7_isBelow_5 rfl ?_
    refine g_icmp_ge (pc := 6) (tgt := 13) C dX7_isBelow_6 (by decide) (fun hc2 => ?_) (fun hc2 => ?_)
    · refine g_iconst (pc := 13) (v := 0) C dX7_isBelow_13 kc_0 ?_
      exact g_zret C dX7_isBelow_14 rfl
    · refine g_iconst (pc := 9) (v := 1) C dX7_isBelow_9 kc_1 ?_
      refine g_goto (pc := 10) (tgt := 14) C dX7_isBelow_10 (by decide) ?_
      exact g_zret C dX7_isBelow_14 rfl
/-- SnowHouse.isUpTo(II)Z -/
def f_X7_isUpTo (h : TT) (x0 : Int32) (x1 : Int32) : Option Int32 := (if x0 < 0 then some (0 : Int32) else (if x1 < x0 then some (0 : Int32) else some (1 : Int32)))
set_option maxRecDepth 20000 in
theorem m_X7_isUpTo {l : Launch} {w : WK} {h : TT} {x0 : Int32} {x1 : Int32} {x : Int32} (hx : f_X7_isUpTo h x0 x1 = some x)  : Met l yX7_isUpTo (Cond.code yX7_isUpTo cX7_isUpTo 2 (some .boolean) :: wsG) { frames := 0, cells := 0, slots := 0, locals := 0 } (PG w [.int x0, .int x1] h) (QG w ((fI h) x)) 0 0 (AA w) := by
  refine m_entry (own := RX7) (f := (fI h)) hx (by decide) rfl (Nat.le_of_ble_eq_true rfl) (fun p e s m args below meth c C => ?_)
  show GO p l e _ s m args below meth c w 2 (fI h) (f_X7_isUpTo h x0 x1) 0 [(0, .int x0), (1, .int x1)] [] h
  unfold f_X7_isUpTo
  refine g_iload_n (pc := 0) C 0 rfl dX7_isUpTo_0 rfl ?_
  refine g_if_lt (pc := 1) (tgt := 13) C dX7_isUpTo_1 (by decide) (fun hc1 => ?_) (fun hc1 => ?_)
  · refine g_iconst (pc := 13) (v := 0) C dX7_isUpTo_13 kc_0 ?_
    exact g_zret C dX7_isUpTo_14 rfl
  · refine g_iload_n (pc := 4) C 0 rfl dX7_isUpTo_4 rfl ?_
    refine g_iload_n (pc := 5) C 1 rfl dX7_isUpTo_5 rfl ?_
    refine g_icmp_gt (pc := 6) (tgt := 13) C dX7_isUpTo_6 (by decide) (fun hc2 => ?_) (fun hc2 => ?_)
    · refine g_iconst (pc := 13) (v := 0) C dX7_isUpTo_13 kc_0 ?_
      exact g_zret C dX7_isUpTo_14 rfl
    · refine g_iconst (pc := 9) (v := 1) C dX7_isUpTo_9 kc_1 ?_
      refine g_goto (pc := 10) (tgt := 14) C dX7_isUpTo_10 (by decide) ?_
      exact g_zret C dX7_isUpTo_14 rfl
/-- SnowHouse$Build.load(II)V -/
def f_X0_load_29 (o0 : Nat)  (x2 : Int32) (x3 : Int32) (x4 : Int32) (h : TT) : Option TT := (if x4 < 0 then some h else (if x4 = x3 then some h else if inb x4 60 = true then if inb x4 60 = true then nm (wr h (o0 + 9) x4.toNatClampNeg ((h.1 (o0 + 9) x4.toNatClampNeg) + x2)) fun h10 => some h10 else none else none))
set_option maxRecDepth 20000 in
theorem j_X0_load_29 {p : Program} {l : Launch} {e : Env} {R : Room} {s : State} {m : MethodId} {args : Array Value} {below : List Frame} {meth : Method} {c : Code} {w : WK} (C : CX p R s m args meth c w RX0 cX0_load 5 none 0 0)  {o0 : Nat} (ho0 : IsB o0)  (x2 : Int32) (x3 : Int32) (x4 : Int32)  (h : TT) : GO p l e R s m args below meth c w 5 fV (f_X0_load_29 o0 x2 x3 x4 h) 29 [(0, .ref (w.2.1 (o0))), (2, .int x2), (3, .int x3), (4, .int x4)] [] h := by
  unfold f_X0_load_29
  refine g_iload (pc := 29) C 3 rfl dX0_load_29 ?_
  refine g_if_lt (pc := 31) (tgt := 51) C dX0_load_31 (by decide) (fun hc6 => ?_) (fun hc6 => ?_)
  · exact g_vret C dX0_load_51
  · refine g_iload (pc := 34) C 3 rfl dX0_load_34 ?_
    refine g_iload_n (pc := 36) C 2 rfl dX0_load_36 rfl ?_
    refine g_icmp_eq (pc := 37) (tgt := 51) C dX0_load_37 (by decide) (fun hc7 => ?_) (fun hc7 => ?_)
    · exact g_vret C dX0_load_51
    · refine g_aload_n (pc := 40) C 0 rfl dX0_load_40 rfl ?_
      refine g_get (pc := 41) C (so_RX0 ho0) 9 fl_RX0_36 (v := .ref (w.2.1 (o0 + 9))) rfl dX0_load_41 ?_
      refine g_iload (pc := 44) C 3 rfl dX0_load_44 ?_
      refine g_dup2 (pc := 46) C dX0_load_46 rfl rfl ?_
      refine g_iald (pc := 47) C (siB9 ho0) dX0_load_47 (fun hb8 => ?_)
      refine g_iload_n (pc := 48) C 1 rfl dX0_load_48 rfl ?_
      refine g_iadd (pc := 49) C dX0_load_49 ?_
      refine g_iast (pc := 50) C (siB9 ho0) dX0_load_50 (fun hb9 => ?_)
      refine g_nm (fun h10 => ?_)
      exact g_vret C dX0_load_51
def f_X0_load (h : TT) (o0 : Nat) (x1 : Int32) (x2 : Int32) : Option TT := if inb x1 60 = true then nm (h.1 (o0 + 13) x1.toNatClampNeg) fun y2 => if inb x1 60 = true then nm (h.1 (o0 + 14) x1.toNatClampNeg) fun y4 => (if y2 < 0 then f_X0_load_29 o0 x2 y2 y4 h else if inb y2 60 = true then if inb y2 60 = true then nm (wr h (o0 + 9) y2.toNatClampNeg ((h.1 (o0 + 9) y2.toNatClampNeg) + x2)) fun h13 => f_X0_load_29 o0 x2 y2 y4 h13 else none else none) else none else none
set_option maxRecDepth 20000 in
theorem m_X0_load {l : Launch} {w : WK} {h : TT} {o0 : Nat} {x1 : Int32} {x2 : Int32} {x : TT} (hx : f_X0_load h o0 x1 x2 = some x) (ho0 : IsB o0) : Met l yX0_load (Cond.code yX0_load cX0_load 5 none :: wsG) { frames := 0, cells := 0, slots := 0, locals := 0 } (PG w [.ref (w.2.1 (o0)), .int x1, .int x2] h) (QG w (fV x)) 0 0 (AA w) := by
  refine m_entry (own := RX0) (f := fV) hx (by decide) rfl (Nat.le_of_ble_eq_true rfl) (fun p e s m args below meth c C => ?_)
  show GO p l e _ s m args below meth c w 5 fV (f_X0_load h o0 x1 x2) 0 [(0, .ref (w.2.1 (o0))), (1, .int x1), (2, .int x2)] [] h
  unfold f_X0_load
  refine g_aload_n (pc := 0) C 0 rfl dX0_load_0 rfl ?_
  refine g_get (pc := 1) C (so_RX0 ho0) 13 fl_RX0_48 (v := .ref (w.2.1 (o0 + 13))) rfl dX0_load_1 ?_
  refine g_iload_n (pc := 4) C 1 rfl dX0_load_4 rfl ?_
  refine g_iald (pc := 5) C (siB13 ho0) dX0_load_5 (fun hb1 => ?_)
  refine g_nmi (fun y2 => ?_)
  refine g_istore_n (pc := 6) C dX0_load_6 rfl (by decide) (lv' := [(3, .int y2), (0, .ref (w.2.1 (o0))), (1, .int x1), (2, .int x2)]) rfl ?_
  refine g_aload_n (pc := 7) C 1 rfl dX0_load_7 rfl ?_
  refine g_get (pc := 8) C (so_RX0 ho0) 14 fl_RX0_51 (v := .ref (w.2.1 (o0 + 14))) rfl dX0_load_8 ?_
  refine g_iload_n (pc := 11) C 2 rfl dX0_load_11 rfl ?_
  refine g_iald (pc := 12) C (siB14 ho0) dX0_load_12 (fun hb3 => ?_)
  refine g_nmi (fun y4 => ?_)
  refine g_istore (pc := 13) C dX0_load_13 (by decide) (lv' := [(4, .int y4), (3, .int y2), (0, .ref (w.2.1 (o0))), (1, .int x1), (2, .int x2)]) rfl ?_
  refine g_iload_n (pc := 15) C 1 rfl dX0_load_15 rfl ?_
  refine g_if_lt (pc := 16) (tgt := 29) C dX0_load_16 (by decide) (fun hc5 => ?_) (fun hc5 => ?_)
  · refine g_lv (lv' := [(0, .ref (w.2.1 (o0))), (2, .int x2), (3, .int y2), (4, .int y4)]) [2, 4, 1, 0] rfl ?_
    exact j_X0_load_29 C ho0 x2 y2 y4 h
  · refine g_aload_n (pc := 19) C 2 rfl dX0_load_19 rfl ?_
    refine g_get (pc := 20) C (so_RX0 ho0) 9 fl_RX0_36 (v := .ref (w.2.1 (o0 + 9))) rfl dX0_load_20 ?_
    refine g_iload_n (pc := 23) C 1 rfl dX0_load_23 rfl ?_
    refine g_dup2 (pc := 24) C dX0_load_24 rfl rfl ?_
    refine g_iald (pc := 25) C (siB9 ho0) dX0_load_25 (fun hb11 => ?_)
    refine g_iload_n (pc := 26) C 4 rfl dX0_load_26 rfl ?_
    refine g_iadd (pc := 27) C dX0_load_27 ?_
    refine g_iast (pc := 28) C (siB9 ho0) dX0_load_28 (fun hb12 => ?_)
    refine g_nm (fun h13 => ?_)
    refine g_lv (lv' := [(0, .ref (w.2.1 (o0))), (2, .int x2), (3, .int y2), (4, .int y4)]) [2, 4, 1, 0] rfl ?_
    exact j_X0_load_29 C ho0 x2 y2 y4 h13
/-- SnowHouse$Build.pullOf(I)I -/
def f_X0_pullOf_83 (h : TT) (o0 : Nat)  (xs0 : Int32) (xs1 : Int32) : Option Int32 := some (xs1 + xs0)
set_option maxRecDepth 20000 in
theorem j_X0_pullOf_83 {p : Program} {l : Launch} {e : Env} {R : Room} {s : State} {m : MethodId} {args : Array Value} {below : List Frame} {meth : Method} {c : Code} {w : WK} (C : CX p R s m args meth c w RX0 cX0_pullOf 4 (some .int) 0 0) (h : TT) {o0 : Nat} (ho0 : IsB o0)  (xs0 : Int32) (xs1 : Int32)  : GO p l e R s m args below meth c w 4 (fI h) (f_X0_pullOf_83 h o0 xs0 xs1) 83 [] [.int xs0, .int xs1] h := by
  unfold f_X0_pullOf_83
  refine g_iadd (pc := 83) C dX0_pullOf_83 ?_
  exact g_iret C dX0_pullOf_84
def f_X0_pullOf_65 (h : TT) (o0 : Nat)  (x1 : Int32) (x2 : Int32) (xs0 : Int32) : Option Int32 := if inb x1 60 = true then (if xs0 = 0 then f_X0_pullOf_83 h o0 (0 : Int32) (x2 + (h.1 (o0 + 9) x1.toNatClampNeg)) else f_X0_pullOf_83 h o0 (2 : Int32) (x2 + (h.1 (o0 + 9) x1.toNatClampNeg))) else none
set_option maxRecDepth 20000 in
theorem j_X0_pullOf_65 {p : Program} {l : Launch} {e : Env} {R : Room} {s : State} {m : MethodId} {args : Array Value} {below : List Frame} {meth : Method} {c : Code} {w : WK} (C : CX p R s m args meth c w RX0 cX0_pullOf 4 (some .int) 0 0) (h : TT) {o0 : Nat} (ho0 : IsB o0)  (x1 : Int32) (x2 : Int32) (xs0 : Int32)  : GO p l e R s m args below meth c w 4 (fI h) (f_X0_pullOf_65 h o0 x1 x2 xs0) 65 [(0, .ref (w.2.1 (o0))), (1, .int x1), (2, .int x2)] [.int xs0] h := by
  unfold f_X0_pullOf_65
  refine g_istore_n (pc := 65) C dX0_pullOf_65 rfl (by decide) (lv' := [(3, .int xs0), (0, .ref (w.2.1 (o0))), (1, .int x1), (2, .int x2)]) rfl ?_
  refine g_iload_n (pc := 66) C 3 rfl dX0_pullOf_66 rfl ?_
  refine g_aload_n (pc := 67) C 1 rfl dX0_pullOf_67 rfl ?_
  refine g_get (pc := 68) C (so_RX0 ho0) 9 fl_RX0_36 (v := .ref (w.2.1 (o0 + 9))) rfl dX0_pullOf_68 ?_
  refine g_iload_n (pc := 71) C 2 rfl dX0_pullOf_71 rfl ?_
  refine g_iald (pc := 72) C (siB9 ho0) dX0_pullOf_72 (fun hb6 => ?_)
  refine g_iadd (pc := 73) C dX0_pullOf_73 ?_
  refine g_iload_n (pc := 74) C 0 rfl dX0_pullOf_74 rfl ?_
  refine g_if_eq (pc := 75) (tgt := 82) C dX0_pullOf_75 (by decide) (fun hc7 => ?_) (fun hc7 => ?_)
  · refine g_iconst (pc := 82) (v := 0) C dX0_pullOf_82 kc_0 ?_
    refine g_lv (lv' := []) [] rfl ?_
    exact j_X0_pullOf_83 C h ho0 (0 : Int32) (x2 + (h.1 (o0 + 9) x1.toNatClampNeg))
  · refine g_iconst (pc := 78) (v := 2) C dX0_pullOf_78 kc_2 ?_
    refine g_goto (pc := 79) (tgt := 83) C dX0_pullOf_79 (by decide) ?_
    refine g_lv (lv' := []) [] rfl ?_
    exact j_X0_pullOf_83 C h ho0 (2 : Int32) (x2 + (h.1 (o0 + 9) x1.toNatClampNeg))
def f_X0_pullOf_64 (h : TT) (o0 : Nat)  (x1 : Int32) (x2 : Int32) : Option Int32 := f_X0_pullOf_65 h o0 x1 x2 (0 : Int32)
set_option maxRecDepth 20000 in
theorem j_X0_pullOf_64 {p : Program} {l : Launch} {e : Env} {R : Room} {s : State} {m : MethodId} {args : Array Value} {below : List Frame} {meth : Method} {c : Code} {w : WK} (C : CX p R s m args meth c w RX0 cX0_pullOf 4 (some .int) 0 0) (h : TT) {o0 : Nat} (ho0 : IsB o0)  (x1 : Int32) (x2 : Int32)  : GO p l e R s m args below meth c w 4 (fI h) (f_X0_pullOf_64 h o0 x1 x2) 64 [(0, .ref (w.2.1 (o0))), (1, .int x1), (2, .int x2)] [] h := by
  unfold f_X0_pullOf_64
  refine g_iconst (pc := 64) (v := 0) C dX0_pullOf_64 kc_0 ?_
  exact j_X0_pullOf_65 C h ho0 x1 x2 (0 : Int32)
def f_X0_pullOf_60 (h : TT) (o0 : Nat)  (x1 : Int32) (x2 : Int32) : Option Int32 := f_X0_pullOf_65 h o0 x1 x2 (1 : Int32)
set_option maxRecDepth 20000 in
theorem j_X0_pullOf_60 {p : Program} {l : Launch} {e : Env} {R : Room} {s : State} {m : MethodId} {args : Array Value} {below : List Frame} {meth : Method} {c : Code} {w : WK} (C : CX p R s m args meth c w RX0 cX0_pullOf 4 (some .int) 0 0) (h : TT) {o0 : Nat} (ho0 : IsB o0)  (x1 : Int32) (x2 : Int32)  : GO p l e R s m args below meth c w 4 (fI h) (f_X0_pullOf_60 h o0 x1 x2) 60 [(0, .ref (w.2.1 (o0))), (1, .int x1), (2, .int x2)] [] h := by
  unfold f_X0_pullOf_60
  refine g_iconst (pc := 60) (v := 1) C dX0_pullOf_60 kc_1 ?_
  refine g_goto (pc := 61) (tgt := 65) C dX0_pullOf_61 (by decide) ?_
  exact j_X0_pullOf_65 C h ho0 x1 x2 (1 : Int32)
def f_X0_pullOf (h : TT) (o0 : Nat) (x1 : Int32) : Option Int32 := if inb x1 60 = true then if inb (h.1 (o0 + 12) x1.toNatClampNeg) 8 = true then if inb (3 : Int32) 4 = true then nm (((h.1 (o0 + 3 + 3) (h.1 (o0 + 12) x1.toNatClampNeg).toNatClampNeg) * (h.1 (o0 + 1 + 1) (3 : Int32).toNatClampNeg)) / (2 : Int32)) fun y4 => (if (h.1 o0 6) < 0 then f_X0_pullOf_64 h o0 x1 y4 else if inb x1 60 = true then (if (h.1 (o0 + 13) x1.toNatClampNeg) = (h.1 o0 6) then f_X0_pullOf_60 h o0 x1 y4 else if inb x1 60 = true then (if (h.1 (o0 + 14) x1.toNatClampNeg) = (h.1 o0 6) then f_X0_pullOf_60 h o0 x1 y4 else f_X0_pullOf_64 h o0 x1 y4) else none) else none) else none else none else none
set_option maxRecDepth 20000 in
theorem m_X0_pullOf {l : Launch} {w : WK} {h : TT} {o0 : Nat} {x1 : Int32} {x : Int32} (hx : f_X0_pullOf h o0 x1 = some x) (ho0 : IsB o0) : Met l yX0_pullOf (Cond.code yX0_pullOf cX0_pullOf 4 (some .int) :: wsG) { frames := 0, cells := 0, slots := 0, locals := 0 } (PG w [.ref (w.2.1 (o0)), .int x1] h) (QG w ((fI h) x)) 0 0 (AA w) := by
  refine m_entry (own := RX0) (f := (fI h)) hx (by decide) rfl (Nat.le_of_ble_eq_true rfl) (fun p e s m args below meth c C => ?_)
  show GO p l e _ s m args below meth c w 4 (fI h) (f_X0_pullOf h o0 x1) 0 [(0, .ref (w.2.1 (o0))), (1, .int x1)] [] h
  unfold f_X0_pullOf
  refine g_aload_n (pc := 0) C 0 rfl dX0_pullOf_0 rfl ?_
  refine g_get (pc := 1) C (so_RX0 ho0) 2 fl_RX0_21 (v := .ref (w.2.1 (o0 + 3))) rfl dX0_pullOf_1 ?_
  refine g_get (pc := 4) C (so_RX3 (isP_B ho0)) 6 fl_RX0_155 (v := .ref (w.2.1 (o0 + 3 + 3))) rfl dX0_pullOf_4 ?_
  refine g_aload_n (pc := 7) C 0 rfl dX0_pullOf_7 rfl ?_
  refine g_get (pc := 8) C (so_RX0 ho0) 12 fl_RX0_45 (v := .ref (w.2.1 (o0 + 12))) rfl dX0_pullOf_8 ?_
  refine g_iload_n (pc := 11) C 1 rfl dX0_pullOf_11 rfl ?_
  refine g_iald (pc := 12) C (siB12 ho0) dX0_pullOf_12 (fun hb1 => ?_)
  refine g_iald (pc := 13) C (siP3 (isP_B ho0)) dX0_pullOf_13 (fun hb2 => ?_)
  refine g_aload_n (pc := 14) C 0 rfl dX0_pullOf_14 rfl ?_
  refine g_get (pc := 15) C (so_RX0 ho0) 1 fl_RX0_12 (v := .ref (w.2.1 (o0 + 1))) rfl dX0_pullOf_15 ?_
  refine g_get (pc := 18) C (so_RX5 (isS_B ho0)) 1 fl_RX0_158 (v := .ref (w.2.1 (o0 + 1 + 1))) rfl dX0_pullOf_18 ?_
  refine g_iconst (pc := 21) (v := 3) C dX0_pullOf_21 kc_3 ?_
  refine g_iald (pc := 22) C (siS (isS_B ho0)) dX0_pullOf_22 (fun hb3 => ?_)
  refine g_imul (pc := 23) C dX0_pullOf_23 ?_
  refine g_iconst (pc := 24) (v := 2) C dX0_pullOf_24 kc_2 ?_
  refine g_idiv (pc := 25) C dX0_pullOf_25 (by decide) ?_
  refine g_nmi (fun y4 => ?_)
  refine g_istore_n (pc := 26) C dX0_pullOf_26 rfl (by decide) (lv' := [(2, .int y4), (0, .ref (w.2.1 (o0))), (1, .int x1)]) rfl ?_
  refine g_aload_n (pc := 27) C 1 rfl dX0_pullOf_27 rfl ?_
  refine g_get (pc := 28) C (so_RX0 ho0) 6 fl_RX0_25 (v := .int (h.1 o0 6)) rfl dX0_pullOf_28 ?_
  refine g_if_lt (pc := 31) (tgt := 64) C dX0_pullOf_31 (by decide) (fun hc5 => ?_) (fun hc5 => ?_)
  · refine g_lv (lv' := [(0, .ref (w.2.1 (o0))), (1, .int x1), (2, .int y4)]) [1, 2, 0] rfl ?_
    exact j_X0_pullOf_64 C h ho0 x1 y4
  · refine g_aload_n (pc := 34) C 1 rfl dX0_pullOf_34 rfl ?_
    refine g_get (pc := 35) C (so_RX0 ho0) 13 fl_RX0_48 (v := .ref (w.2.1 (o0 + 13))) rfl dX0_pullOf_35 ?_
    refine g_iload_n (pc := 38) C 2 rfl dX0_pullOf_38 rfl ?_
    refine g_iald (pc := 39) C (siB13 ho0) dX0_pullOf_39 (fun hb8 => ?_)
    refine g_aload_n (pc := 40) C 1 rfl dX0_pullOf_40 rfl ?_
    refine g_get (pc := 41) C (so_RX0 ho0) 6 fl_RX0_25 (v := .int (h.1 o0 6)) rfl dX0_pullOf_41 ?_
    refine g_icmp_eq (pc := 44) (tgt := 60) C dX0_pullOf_44 (by decide) (fun hc9 => ?_) (fun hc9 => ?_)
    · refine g_lv (lv' := [(0, .ref (w.2.1 (o0))), (1, .int x1), (2, .int y4)]) [1, 2, 0] rfl ?_
      exact j_X0_pullOf_60 C h ho0 x1 y4
    · refine g_aload_n (pc := 47) C 1 rfl dX0_pullOf_47 rfl ?_
      refine g_get (pc := 48) C (so_RX0 ho0) 14 fl_RX0_51 (v := .ref (w.2.1 (o0 + 14))) rfl dX0_pullOf_48 ?_
      refine g_iload_n (pc := 51) C 2 rfl dX0_pullOf_51 rfl ?_
      refine g_iald (pc := 52) C (siB14 ho0) dX0_pullOf_52 (fun hb10 => ?_)
      refine g_aload_n (pc := 53) C 1 rfl dX0_pullOf_53 rfl ?_
      refine g_get (pc := 54) C (so_RX0 ho0) 6 fl_RX0_25 (v := .int (h.1 o0 6)) rfl dX0_pullOf_54 ?_
      refine g_icmp_ne (pc := 57) (tgt := 64) C dX0_pullOf_57 (by decide) (fun hc11 => ?_) (fun hc11 => ?_)
      · refine g_lv (lv' := [(0, .ref (w.2.1 (o0))), (1, .int x1), (2, .int y4)]) [1, 2, 0] rfl ?_
        exact j_X0_pullOf_60 C h ho0 x1 y4
      · refine g_lv (lv' := [(0, .ref (w.2.1 (o0))), (1, .int x1), (2, .int y4)]) [1, 2, 0] rfl ?_
        exact j_X0_pullOf_64 C h ho0 x1 y4
/-- SnowHouse$Build.holdOf(I)I -/
def f_X0_holdOf_209 (h : TT) (o0 : Nat)  (x5 : Int32) : Option Int32 := some x5
set_option maxRecDepth 20000 in
theorem j_X0_holdOf_209 {p : Program} {l : Launch} {e : Env} {R : Room} {s : State} {m : MethodId} {args : Array Value} {below : List Frame} {meth : Method} {c : Code} {w : WK} (C : CX p R s m args meth c w RX0 cX0_holdOf 9 (some .int) 0 0) (h : TT) {o0 : Nat} (ho0 : IsB o0)  (x5 : Int32)  : GO p l e R s m args below meth c w 9 (fI h) (f_X0_holdOf_209 h o0 x5) 209 [(5, .int x5)] [] h := by
  unfold f_X0_holdOf_209
  refine g_iload (pc := 209) C 0 rfl dX0_holdOf_209 ?_
  exact g_iret C dX0_holdOf_211
def f_X0_holdOf_188 (h : TT) (o0 : Nat)  (x1 : Int32) (x5 : Int32) : Option Int32 := (if (h.1 o0 3) = (2 : Int32) then (if x1 = ((h.1 o0 4) - (1 : Int32)) then f_X0_holdOf_209 h o0 x5 else f_X0_holdOf_209 h o0 (x5 + (1 : Int32))) else f_X0_holdOf_209 h o0 x5)
set_option maxRecDepth 20000 in
theorem j_X0_holdOf_188 {p : Program} {l : Launch} {e : Env} {R : Room} {s : State} {m : MethodId} {args : Array Value} {below : List Frame} {meth : Method} {c : Code} {w : WK} (C : CX p R s m args meth c w RX0 cX0_holdOf 9 (some .int) 0 0) (h : TT) {o0 : Nat} (ho0 : IsB o0)  (x1 : Int32) (x5 : Int32)  : GO p l e R s m args below meth c w 9 (fI h) (f_X0_holdOf_188 h o0 x1 x5) 188 [(0, .ref (w.2.1 (o0))), (1, .int x1), (5, .int x5)] [] h := by
  unfold f_X0_holdOf_188
  refine g_aload_n (pc := 188) C 0 rfl dX0_holdOf_188 rfl ?_
  refine g_get (pc := 189) C (so_RX0 ho0) 3 fl_RX0_71 (v := .int (h.1 o0 3)) rfl dX0_holdOf_189 ?_
  refine g_iconst (pc := 192) (v := 2) C dX0_holdOf_192 kc_2 ?_
  refine g_icmp_ne (pc := 193) (tgt := 209) C dX0_holdOf_193 (by decide) (fun hc22 => ?_) (fun hc22 => ?_)
  · refine g_iload_n (pc := 196) C 1 rfl dX0_holdOf_196 rfl ?_
    refine g_aload_n (pc := 197) C 0 rfl dX0_holdOf_197 rfl ?_
    refine g_get (pc := 198) C (so_RX0 ho0) 4 fl_RX0_80 (v := .int (h.1 o0 4)) rfl dX0_holdOf_198 ?_
    refine g_iconst (pc := 201) (v := 1) C dX0_holdOf_201 kc_1 ?_
    refine g_isub (pc := 202) C dX0_holdOf_202 ?_
    refine g_icmp_eq (pc := 203) (tgt := 209) C dX0_holdOf_203 (by decide) (fun hc23 => ?_) (fun hc23 => ?_)
    · refine g_lv (lv' := [(5, .int x5)]) [2] rfl ?_
      exact j_X0_holdOf_209 C h ho0 x5
    · refine g_iinc (pc := 206) C 2 rfl dX0_holdOf_206 (ki_1 _) (by decide) (lv' := [(5, .int (x5 + (1 : Int32))), (0, .ref (w.2.1 (o0))), (1, .int x1)]) rfl ?_
      refine g_lv (lv' := [(5, .int (x5 + (1 : Int32)))]) [0] rfl ?_
      exact j_X0_holdOf_209 C h ho0 (x5 + (1 : Int32))
  · refine g_lv (lv' := [(5, .int x5)]) [2] rfl ?_
    exact j_X0_holdOf_209 C h ho0 x5
def f_X0_holdOf_149 (h : TT) (o0 : Nat)  (x1 : Int32) (x2 : Int32) (x5 : Int32) (xs0 : Int32) : Option Int32 := if inb x2 8 = true then if inb x2 8 = true then (if (h.1 o0 4) < ((h.1 (o0 + 11) x2.toNatClampNeg) + (h.1 (o0 + 3 + 2) x2.toNatClampNeg)) then f_X0_holdOf_188 h o0 x1 x5 else if inb x2 8 = true then (if (h.1 (o0 + 10) x2.toNatClampNeg) = xs0 then f_X0_holdOf_188 h o0 x1 (x5 + (3 : Int32)) else f_X0_holdOf_188 h o0 x1 x5) else none) else none else none
set_option maxRecDepth 20000 in
theorem j_X0_holdOf_149 {p : Program} {l : Launch} {e : Env} {R : Room} {s : State} {m : MethodId} {args : Array Value} {below : List Frame} {meth : Method} {c : Code} {w : WK} (C : CX p R s m args meth c w RX0 cX0_holdOf 9 (some .int) 0 0) (h : TT) {o0 : Nat} (ho0 : IsB o0)  (x1 : Int32) (x2 : Int32) (x5 : Int32) (xs0 : Int32)  : GO p l e R s m args below meth c w 9 (fI h) (f_X0_holdOf_149 h o0 x1 x2 x5 xs0) 149 [(0, .ref (w.2.1 (o0))), (1, .int x1), (2, .int x2), (5, .int x5)] [.int xs0] h := by
  unfold f_X0_holdOf_149
  refine g_istore (pc := 149) C dX0_holdOf_149 (by decide) (lv' := [(8, .int xs0), (0, .ref (w.2.1 (o0))), (1, .int x1), (2, .int x2), (5, .int x5)]) rfl ?_
  refine g_aload_n (pc := 151) C 1 rfl dX0_holdOf_151 rfl ?_
  refine g_get (pc := 152) C (so_RX0 ho0) 11 fl_RX0_42 (v := .ref (w.2.1 (o0 + 11))) rfl dX0_holdOf_152 ?_
  refine g_iload_n (pc := 155) C 3 rfl dX0_holdOf_155 rfl ?_
  refine g_iald (pc := 156) C (siB11 ho0) dX0_holdOf_156 (fun hb19 => ?_)
  refine g_aload_n (pc := 157) C 1 rfl dX0_holdOf_157 rfl ?_
  refine g_get (pc := 158) C (so_RX0 ho0) 2 fl_RX0_21 (v := .ref (w.2.1 (o0 + 3))) rfl dX0_holdOf_158 ?_
  refine g_get (pc := 161) C (so_RX3 (isP_B ho0)) 5 fl_RX0_101 (v := .ref (w.2.1 (o0 + 3 + 2))) rfl dX0_holdOf_161 ?_
  refine g_iload_n (pc := 164) C 3 rfl dX0_holdOf_164 rfl ?_
  refine g_iald (pc := 165) C (siP2 (isP_B ho0)) dX0_holdOf_165 (fun hb20 => ?_)
  refine g_iadd (pc := 166) C dX0_holdOf_166 ?_
  refine g_aload_n (pc := 167) C 1 rfl dX0_holdOf_167 rfl ?_
  refine g_get (pc := 168) C (so_RX0 ho0) 4 fl_RX0_80 (v := .int (h.1 o0 4)) rfl dX0_holdOf_168 ?_
  refine g_icmp_gt (pc := 171) (tgt := 188) C dX0_holdOf_171 (by decide) (fun hc21 => ?_) (fun hc21 => ?_)
  · refine g_lv (lv' := [(0, .ref (w.2.1 (o0))), (1, .int x1), (5, .int x5)]) [1, 2, 4] rfl ?_
    exact j_X0_holdOf_188 C h ho0 x1 x5
  · refine g_aload_n (pc := 174) C 1 rfl dX0_holdOf_174 rfl ?_
    refine g_get (pc := 175) C (so_RX0 ho0) 10 fl_RX0_39 (v := .ref (w.2.1 (o0 + 10))) rfl dX0_holdOf_175 ?_
    refine g_iload_n (pc := 178) C 3 rfl dX0_holdOf_178 rfl ?_
    refine g_iald (pc := 179) C (siB10 ho0) dX0_holdOf_179 (fun hb24 => ?_)
    refine g_iload (pc := 180) C 0 rfl dX0_holdOf_180 ?_
    refine g_icmp_ne (pc := 182) (tgt := 188) C dX0_holdOf_182 (by decide) (fun hc25 => ?_) (fun hc25 => ?_)
    · refine g_iinc (pc := 185) C 4 rfl dX0_holdOf_185 (ki_3 _) (by decide) (lv' := [(5, .int (x5 + (3 : Int32))), (8, .int xs0), (0, .ref (w.2.1 (o0))), (1, .int x1), (2, .int x2)]) rfl ?_
      refine g_lv (lv' := [(0, .ref (w.2.1 (o0))), (1, .int x1), (5, .int (x5 + (3 : Int32)))]) [2, 3, 0] rfl ?_
      exact j_X0_holdOf_188 C h ho0 x1 (x5 + (3 : Int32))
    · refine g_lv (lv' := [(0, .ref (w.2.1 (o0))), (1, .int x1), (5, .int x5)]) [1, 2, 4] rfl ?_
      exact j_X0_holdOf_188 C h ho0 x1 x5
def f_X0_holdOf_134 (h : TT) (o0 : Nat)  (x1 : Int32) (x2 : Int32) (x5 : Int32) : Option Int32 := if inb x1 60 = true then (if (h.1 (o0 + 7) x1.toNatClampNeg) = (1 : Int32) then f_X0_holdOf_149 h o0 x1 x2 x5 (0 : Int32) else f_X0_holdOf_149 h o0 x1 x2 x5 (1 : Int32)) else none
set_option maxRecDepth 20000 in
theorem j_X0_holdOf_134 {p : Program} {l : Launch} {e : Env} {R : Room} {s : State} {m : MethodId} {args : Array Value} {below : List Frame} {meth : Method} {c : Code} {w : WK} (C : CX p R s m args meth c w RX0 cX0_holdOf 9 (some .int) 0 0) (h : TT) {o0 : Nat} (ho0 : IsB o0)  (x1 : Int32) (x2 : Int32) (x5 : Int32)  : GO p l e R s m args below meth c w 9 (fI h) (f_X0_holdOf_134 h o0 x1 x2 x5) 134 [(0, .ref (w.2.1 (o0))), (1, .int x1), (2, .int x2), (5, .int x5)] [] h := by
  unfold f_X0_holdOf_134
  refine g_aload_n (pc := 134) C 0 rfl dX0_holdOf_134 rfl ?_
  refine g_get (pc := 135) C (so_RX0 ho0) 7 fl_RX0_29 (v := .ref (w.2.1 (o0 + 7))) rfl dX0_holdOf_135 ?_
  refine g_iload_n (pc := 138) C 1 rfl dX0_holdOf_138 rfl ?_
  refine g_iald (pc := 139) C (siB7 ho0) dX0_holdOf_139 (fun hb17 => ?_)
  refine g_iconst (pc := 140) (v := 1) C dX0_holdOf_140 kc_1 ?_
  refine g_icmp_ne (pc := 141) (tgt := 148) C dX0_holdOf_141 (by decide) (fun hc18 => ?_) (fun hc18 => ?_)
  · refine g_iconst (pc := 144) (v := 0) C dX0_holdOf_144 kc_0 ?_
    refine g_goto (pc := 145) (tgt := 149) C dX0_holdOf_145 (by decide) ?_
    exact j_X0_holdOf_149 C h ho0 x1 x2 x5 (0 : Int32)
  · refine g_iconst (pc := 148) (v := 1) C dX0_holdOf_148 kc_1 ?_
    exact j_X0_holdOf_149 C h ho0 x1 x2 x5 (1 : Int32)
def f_X0_holdOf_115 (h : TT) (o0 : Nat)  (x1 : Int32) (x2 : Int32) (x5 : Int32) (x7 : Int32) : Option Int32 := (if x7 < 0 then f_X0_holdOf_134 h o0 x1 x2 x5 else if inb x7 60 = true then (if (h.1 (o0 + 7) x7.toNatClampNeg) = (1 : Int32) then f_X0_holdOf_134 h o0 x1 x2 (x5 + (2 : Int32)) else f_X0_holdOf_134 h o0 x1 x2 x5) else none)
set_option maxRecDepth 20000 in
theorem j_X0_holdOf_115 {p : Program} {l : Launch} {e : Env} {R : Room} {s : State} {m : MethodId} {args : Array Value} {below : List Frame} {meth : Method} {c : Code} {w : WK} (C : CX p R s m args meth c w RX0 cX0_holdOf 9 (some .int) 0 0) (h : TT) {o0 : Nat} (ho0 : IsB o0)  (x1 : Int32) (x2 : Int32) (x5 : Int32) (x7 : Int32)  : GO p l e R s m args below meth c w 9 (fI h) (f_X0_holdOf_115 h o0 x1 x2 x5 x7) 115 [(0, .ref (w.2.1 (o0))), (1, .int x1), (2, .int x2), (5, .int x5), (7, .int x7)] [] h := by
  unfold f_X0_holdOf_115
  refine g_iload (pc := 115) C 4 rfl dX0_holdOf_115 ?_
  refine g_if_lt (pc := 117) (tgt := 134) C dX0_holdOf_117 (by decide) (fun hc16 => ?_) (fun hc16 => ?_)
  · refine g_lv (lv' := [(0, .ref (w.2.1 (o0))), (1, .int x1), (2, .int x2), (5, .int x5)]) [0, 1, 2, 3] rfl ?_
    exact j_X0_holdOf_134 C h ho0 x1 x2 x5
  · refine g_aload_n (pc := 120) C 0 rfl dX0_holdOf_120 rfl ?_
    refine g_get (pc := 121) C (so_RX0 ho0) 7 fl_RX0_29 (v := .ref (w.2.1 (o0 + 7))) rfl dX0_holdOf_121 ?_
    refine g_iload (pc := 124) C 4 rfl dX0_holdOf_124 ?_
    refine g_iald (pc := 126) C (siB7 ho0) dX0_holdOf_126 (fun hb26 => ?_)
    refine g_iconst (pc := 127) (v := 1) C dX0_holdOf_127 kc_1 ?_
    refine g_icmp_ne (pc := 128) (tgt := 134) C dX0_holdOf_128 (by decide) (fun hc27 => ?_) (fun hc27 => ?_)
    · refine g_iinc (pc := 131) C 3 rfl dX0_holdOf_131 (ki_2 _) (by decide) (lv' := [(5, .int (x5 + (2 : Int32))), (0, .ref (w.2.1 (o0))), (1, .int x1), (2, .int x2), (7, .int x7)]) rfl ?_
      refine g_lv (lv' := [(0, .ref (w.2.1 (o0))), (1, .int x1), (2, .int x2), (5, .int (x5 + (2 : Int32)))]) [1, 2, 3, 0] rfl ?_
      exact j_X0_holdOf_134 C h ho0 x1 x2 (x5 + (2 : Int32))
    · refine g_lv (lv' := [(0, .ref (w.2.1 (o0))), (1, .int x1), (2, .int x2), (5, .int x5)]) [0, 1, 2, 3] rfl ?_
      exact j_X0_holdOf_134 C h ho0 x1 x2 x5
def f_X0_holdOf_77 (h : TT) (o0 : Nat)  (x1 : Int32) (x2 : Int32) (xs0 : Int32) (xs1 : Int32) : Option Int32 := nm (xs1 + xs0) fun y10 => if inb x1 60 = true then nm (h.1 (o0 + 15) x1.toNatClampNeg) fun y12 => if inb x1 60 = true then nm (h.1 (o0 + 16) x1.toNatClampNeg) fun y14 => (if y12 < 0 then f_X0_holdOf_115 h o0 x1 x2 y10 y14 else if inb y12 60 = true then (if (h.1 (o0 + 7) y12.toNatClampNeg) = (1 : Int32) then f_X0_holdOf_115 h o0 x1 x2 (y10 + (2 : Int32)) y14 else f_X0_holdOf_115 h o0 x1 x2 y10 y14) else none) else none else none
set_option maxRecDepth 20000 in
theorem j_X0_holdOf_77 {p : Program} {l : Launch} {e : Env} {R : Room} {s : State} {m : MethodId} {args : Array Value} {below : List Frame} {meth : Method} {c : Code} {w : WK} (C : CX p R s m args meth c w RX0 cX0_holdOf 9 (some .int) 0 0) (h : TT) {o0 : Nat} (ho0 : IsB o0)  (x1 : Int32) (x2 : Int32) (xs0 : Int32) (xs1 : Int32)  : GO p l e R s m args below meth c w 9 (fI h) (f_X0_holdOf_77 h o0 x1 x2 xs0 xs1) 77 [(0, .ref (w.2.1 (o0))), (1, .int x1), (2, .int x2)] [.int xs0, .int xs1] h := by
  unfold f_X0_holdOf_77
  refine g_iadd (pc := 77) C dX0_holdOf_77 ?_
  refine g_nmi (fun y10 => ?_)
  refine g_istore (pc := 78) C dX0_holdOf_78 (by decide) (lv' := [(5, .int y10), (0, .ref (w.2.1 (o0))), (1, .int x1), (2, .int x2)]) rfl ?_
  refine g_aload_n (pc := 80) C 1 rfl dX0_holdOf_80 rfl ?_
  refine g_get (pc := 81) C (so_RX0 ho0) 15 fl_RX0_54 (v := .ref (w.2.1 (o0 + 15))) rfl dX0_holdOf_81 ?_
  refine g_iload_n (pc := 84) C 2 rfl dX0_holdOf_84 rfl ?_
  refine g_iald (pc := 85) C (siB15 ho0) dX0_holdOf_85 (fun hb11 => ?_)
  refine g_nmi (fun y12 => ?_)
  refine g_istore (pc := 86) C dX0_holdOf_86 (by decide) (lv' := [(6, .int y12), (5, .int y10), (0, .ref (w.2.1 (o0))), (1, .int x1), (2, .int x2)]) rfl ?_
  refine g_aload_n (pc := 88) C 2 rfl dX0_holdOf_88 rfl ?_
  refine g_get (pc := 89) C (so_RX0 ho0) 16 fl_RX0_57 (v := .ref (w.2.1 (o0 + 16))) rfl dX0_holdOf_89 ?_
  refine g_iload_n (pc := 92) C 3 rfl dX0_holdOf_92 rfl ?_
  refine g_iald (pc := 93) C (siB16 ho0) dX0_holdOf_93 (fun hb13 => ?_)
  refine g_nmi (fun y14 => ?_)
  refine g_istore (pc := 94) C dX0_holdOf_94 (by decide) (lv' := [(7, .int y14), (6, .int y12), (5, .int y10), (0, .ref (w.2.1 (o0))), (1, .int x1), (2, .int x2)]) rfl ?_
  refine g_iload (pc := 96) C 1 rfl dX0_holdOf_96 ?_
  refine g_if_lt (pc := 98) (tgt := 115) C dX0_holdOf_98 (by decide) (fun hc15 => ?_) (fun hc15 => ?_)
  · refine g_lv (lv' := [(0, .ref (w.2.1 (o0))), (1, .int x1), (2, .int x2), (5, .int y10), (7, .int y14)]) [3, 4, 5, 2, 0] rfl ?_
    exact j_X0_holdOf_115 C h ho0 x1 x2 y10 y14
  · refine g_aload_n (pc := 101) C 3 rfl dX0_holdOf_101 rfl ?_
    refine g_get (pc := 102) C (so_RX0 ho0) 7 fl_RX0_29 (v := .ref (w.2.1 (o0 + 7))) rfl dX0_holdOf_102 ?_
    refine g_iload (pc := 105) C 1 rfl dX0_holdOf_105 ?_
    refine g_iald (pc := 107) C (siB7 ho0) dX0_holdOf_107 (fun hb28 => ?_)
    refine g_iconst (pc := 108) (v := 1) C dX0_holdOf_108 kc_1 ?_
    refine g_icmp_ne (pc := 109) (tgt := 115) C dX0_holdOf_109 (by decide) (fun hc29 => ?_) (fun hc29 => ?_)
    · refine g_iinc (pc := 112) C 2 rfl dX0_holdOf_112 (ki_2 _) (by decide) (lv' := [(5, .int (y10 + (2 : Int32))), (7, .int y14), (6, .int y12), (0, .ref (w.2.1 (o0))), (1, .int x1), (2, .int x2)]) rfl ?_
      refine g_lv (lv' := [(0, .ref (w.2.1 (o0))), (1, .int x1), (2, .int x2), (5, .int (y10 + (2 : Int32))), (7, .int y14)]) [3, 4, 5, 0, 1] rfl ?_
      exact j_X0_holdOf_115 C h ho0 x1 x2 (y10 + (2 : Int32)) y14
    · refine g_lv (lv' := [(0, .ref (w.2.1 (o0))), (1, .int x1), (2, .int x2), (5, .int y10), (7, .int y14)]) [3, 4, 5, 2, 0] rfl ?_
      exact j_X0_holdOf_115 C h ho0 x1 x2 y10 y14
def f_X0_holdOf (h : TT) (o0 : Nat) (x1 : Int32) : Option Int32 := if inb x1 60 = true then nm (h.1 (o0 + 12) x1.toNatClampNeg) fun y2 => nm ((h.1 (o0 + 3) 3) * (((h.1 o0 4) - (1 : Int32)) - x1)) fun y3 => if inb (2 : Int32) 4 = true then nm ((y3 * (h.1 (o0 + 1 + 1) (2 : Int32).toNatClampNeg)) / (20 : Int32)) fun y5 => if inb (1 : Int32) 4 = true then if inb (0 : Int32) 4 = true then (if (h.1 (o0 + 1 + 1) (0 : Int32).toNatClampNeg) ≤ y5 then if inb (0 : Int32) 4 = true then f_X0_holdOf_77 h o0 x1 y2 (h.1 (o0 + 1 + 1) (0 : Int32).toNatClampNeg) (h.1 (o0 + 1 + 1) (1 : Int32).toNatClampNeg) else none else f_X0_holdOf_77 h o0 x1 y2 y5 (h.1 (o0 + 1 + 1) (1 : Int32).toNatClampNeg)) else none else none else none else none
set_option maxRecDepth 20000 in
theorem m_X0_holdOf {l : Launch} {w : WK} {h : TT} {o0 : Nat} {x1 : Int32} {x : Int32} (hx : f_X0_holdOf h o0 x1 = some x) (ho0 : IsB o0) : Met l yX0_holdOf (Cond.code yX0_holdOf cX0_holdOf 9 (some .int) :: wsG) { frames := 0, cells := 0, slots := 0, locals := 0 } (PG w [.ref (w.2.1 (o0)), .int x1] h) (QG w ((fI h) x)) 0 0 (AA w) := by
  refine m_entry (own := RX0) (f := (fI h)) hx (by decide) rfl (Nat.le_of_ble_eq_true rfl) (fun p e s m args below meth c C => ?_)
  show GO p l e _ s m args below meth c w 9 (fI h) (f_X0_holdOf h o0 x1) 0 [(0, .ref (w.2.1 (o0))), (1, .int x1)] [] h
  unfold f_X0_holdOf
  refine g_aload_n (pc := 0) C 0 rfl dX0_holdOf_0 rfl ?_
  refine g_get (pc := 1) C (so_RX0 ho0) 12 fl_RX0_45 (v := .ref (w.2.1 (o0 + 12))) rfl dX0_holdOf_1 ?_
  refine g_iload_n (pc := 4) C 1 rfl dX0_holdOf_4 rfl ?_
  refine g_iald (pc := 5) C (siB12 ho0) dX0_holdOf_5 (fun hb1 => ?_)
  refine g_nmi (fun y2 => ?_)
  refine g_istore_n (pc := 6) C dX0_holdOf_6 rfl (by decide) (lv' := [(2, .int y2), (0, .ref (w.2.1 (o0))), (1, .int x1)]) rfl ?_
  refine g_aload_n (pc := 7) C 1 rfl dX0_holdOf_7 rfl ?_
  refine g_get (pc := 8) C (so_RX0 ho0) 2 fl_RX0_21 (v := .ref (w.2.1 (o0 + 3))) rfl dX0_holdOf_8 ?_
  refine g_get (pc := 11) C (so_RX3 (isP_B ho0)) 3 fl_RX0_161 (v := .int (h.1 (o0 + 3) 3)) rfl dX0_holdOf_11 ?_
  refine g_aload_n (pc := 14) C 1 rfl dX0_holdOf_14 rfl ?_
  refine g_get (pc := 15) C (so_RX0 ho0) 4 fl_RX0_80 (v := .int (h.1 o0 4)) rfl dX0_holdOf_15 ?_
  refine g_iconst (pc := 18) (v := 1) C dX0_holdOf_18 kc_1 ?_
  refine g_isub (pc := 19) C dX0_holdOf_19 ?_
  refine g_iload_n (pc := 20) C 2 rfl dX0_holdOf_20 rfl ?_
  refine g_isub (pc := 21) C dX0_holdOf_21 ?_
  refine g_imul (pc := 22) C dX0_holdOf_22 ?_
  refine g_nmi (fun y3 => ?_)
  refine g_istore_n (pc := 23) C dX0_holdOf_23 rfl (by decide) (lv' := [(3, .int y3), (2, .int y2), (0, .ref (w.2.1 (o0))), (1, .int x1)]) rfl ?_
  refine g_iload_n (pc := 24) C 0 rfl dX0_holdOf_24 rfl ?_
  refine g_aload_n (pc := 25) C 2 rfl dX0_holdOf_25 rfl ?_
  refine g_get (pc := 26) C (so_RX0 ho0) 1 fl_RX0_12 (v := .ref (w.2.1 (o0 + 1))) rfl dX0_holdOf_26 ?_
  refine g_get (pc := 29) C (so_RX5 (isS_B ho0)) 1 fl_RX0_158 (v := .ref (w.2.1 (o0 + 1 + 1))) rfl dX0_holdOf_29 ?_
  refine g_iconst (pc := 32) (v := 2) C dX0_holdOf_32 kc_2 ?_
  refine g_iald (pc := 33) C (siS (isS_B ho0)) dX0_holdOf_33 (fun hb4 => ?_)
  refine g_imul (pc := 34) C dX0_holdOf_34 ?_
  refine g_bipush (pc := 35) (v := 20) C dX0_holdOf_35 kb_20 ?_
  refine g_idiv (pc := 37) C dX0_holdOf_37 (by decide) ?_
  refine g_nmi (fun y5 => ?_)
  refine g_istore (pc := 38) C dX0_holdOf_38 (by decide) (lv' := [(4, .int y5), (3, .int y3), (2, .int y2), (0, .ref (w.2.1 (o0))), (1, .int x1)]) rfl ?_
  refine g_aload_n (pc := 40) C 3 rfl dX0_holdOf_40 rfl ?_
  refine g_get (pc := 41) C (so_RX0 ho0) 1 fl_RX0_12 (v := .ref (w.2.1 (o0 + 1))) rfl dX0_holdOf_41 ?_
  refine g_get (pc := 44) C (so_RX5 (isS_B ho0)) 1 fl_RX0_158 (v := .ref (w.2.1 (o0 + 1 + 1))) rfl dX0_holdOf_44 ?_
  refine g_iconst (pc := 47) (v := 1) C dX0_holdOf_47 kc_1 ?_
  refine g_iald (pc := 48) C (siS (isS_B ho0)) dX0_holdOf_48 (fun hb6 => ?_)
  refine g_iload (pc := 49) C 0 rfl dX0_holdOf_49 ?_
  refine g_aload_n (pc := 51) C 3 rfl dX0_holdOf_51 rfl ?_
  refine g_get (pc := 52) C (so_RX0 ho0) 1 fl_RX0_12 (v := .ref (w.2.1 (o0 + 1))) rfl dX0_holdOf_52 ?_
  refine g_get (pc := 55) C (so_RX5 (isS_B ho0)) 1 fl_RX0_158 (v := .ref (w.2.1 (o0 + 1 + 1))) rfl dX0_holdOf_55 ?_
  refine g_iconst (pc := 58) (v := 0) C dX0_holdOf_58 kc_0 ?_
  refine g_iald (pc := 59) C (siS (isS_B ho0)) dX0_holdOf_59 (fun hb7 => ?_)
  refine g_icmp_ge (pc := 60) (tgt := 68) C dX0_holdOf_60 (by decide) (fun hc8 => ?_) (fun hc8 => ?_)
  · refine g_aload_n (pc := 68) C 3 rfl dX0_holdOf_68 rfl ?_
    refine g_get (pc := 69) C (so_RX0 ho0) 1 fl_RX0_12 (v := .ref (w.2.1 (o0 + 1))) rfl dX0_holdOf_69 ?_
    refine g_get (pc := 72) C (so_RX5 (isS_B ho0)) 1 fl_RX0_158 (v := .ref (w.2.1 (o0 + 1 + 1))) rfl dX0_holdOf_72 ?_
    refine g_iconst (pc := 75) (v := 0) C dX0_holdOf_75 kc_0 ?_
    refine g_iald (pc := 76) C (siS (isS_B ho0)) dX0_holdOf_76 (fun hb9 => ?_)
    refine g_lv (lv' := [(0, .ref (w.2.1 (o0))), (1, .int x1), (2, .int y2)]) [3, 4, 2] rfl ?_
    exact j_X0_holdOf_77 C h ho0 x1 y2 (h.1 (o0 + 1 + 1) (0 : Int32).toNatClampNeg) (h.1 (o0 + 1 + 1) (1 : Int32).toNatClampNeg)
  · refine g_iload (pc := 63) C 0 rfl dX0_holdOf_63 ?_
    refine g_goto (pc := 65) (tgt := 77) C dX0_holdOf_65 (by decide) ?_
    refine g_lv (lv' := [(0, .ref (w.2.1 (o0))), (1, .int x1), (2, .int y2)]) [3, 4, 2] rfl ?_
    exact j_X0_holdOf_77 C h ho0 x1 y2 y5 (h.1 (o0 + 1 + 1) (1 : Int32).toNatClampNeg)
/-- SnowHouse$Build.gives(I)Z -/
def f_X0_gives_69 (h : TT) (o0 : Nat)  (x1 : Int32) : Option Int32 := (f_X0_pullOf h o0 x1).bind fun r11 => (f_X0_holdOf h o0 x1).bind fun r12 => (if r11 ≤ r12 then some (0 : Int32) else some (1 : Int32))
set_option maxRecDepth 20000 in
theorem j_X0_gives_69 {p : Program} {l : Launch} {e : Env} {R : Room} {s : State} {m : MethodId} {args : Array Value} {below : List Frame} {meth : Method} {c : Code} {w : WK} (C : CX p R s m args meth c w RX0 cX0_gives 4 (some .boolean) 1 28) (h : TT) {o0 : Nat} (ho0 : IsB o0)  (x1 : Int32)  : GO p l e R s m args below meth c w 4 (fI h) (f_X0_gives_69 h o0 x1) 69 [(0, .ref (w.2.1 (o0))), (1, .int x1)] [] h := by
  unfold f_X0_gives_69
  refine g_aload_n (pc := 69) C 0 rfl dX0_gives_69 rfl ?_
  refine g_iload_n (pc := 70) C 1 rfl dX0_gives_70 rfl ?_
  refine g_callI (pc := 71) (rest := []) (g_runV C mv_RX0_148 (fun x1 hx1 => m_X0_pullOf hx1 ho0) (so_RX0 ho0) rfl (by decide) rfl rfl (Nat.le_of_ble_eq_true rfl) dX0_gives_71) (fun r11 => ?_)
  refine g_aload_n (pc := 74) C 0 rfl dX0_gives_74 rfl ?_
  refine g_iload_n (pc := 75) C 1 rfl dX0_gives_75 rfl ?_
  refine g_callI (pc := 76) (rest := [.int r11]) (g_runV C mv_RX0_152 (fun x1 hx1 => m_X0_holdOf hx1 ho0) (so_RX0 ho0) rfl (by decide) rfl rfl (Nat.le_of_ble_eq_true rfl) dX0_gives_76) (fun r12 => ?_)
  refine g_icmp_le (pc := 79) (tgt := 86) C dX0_gives_79 (by decide) (fun hc13 => ?_) (fun hc13 => ?_)
  · refine g_iconst (pc := 86) (v := 0) C dX0_gives_86 kc_0 ?_
    exact g_zret C dX0_gives_87 rfl
  · refine g_iconst (pc := 82) (v := 1) C dX0_gives_82 kc_1 ?_
    refine g_goto (pc := 83) (tgt := 87) C dX0_gives_83 (by decide) ?_
    exact g_zret C dX0_gives_87 rfl
def f_X0_gives_53 (h : TT) (o0 : Nat)  (x1 : Int32) (x3 : Int32) : Option Int32 := (if x3 < 0 then f_X0_gives_69 h o0 x1 else if inb x3 60 = true then (if (h.1 (o0 + 7) x3.toNatClampNeg) = (2 : Int32) then some (1 : Int32) else f_X0_gives_69 h o0 x1) else none)
set_option maxRecDepth 20000 in
theorem j_X0_gives_53 {p : Program} {l : Launch} {e : Env} {R : Room} {s : State} {m : MethodId} {args : Array Value} {below : List Frame} {meth : Method} {c : Code} {w : WK} (C : CX p R s m args meth c w RX0 cX0_gives 4 (some .boolean) 1 28) (h : TT) {o0 : Nat} (ho0 : IsB o0)  (x1 : Int32) (x3 : Int32)  : GO p l e R s m args below meth c w 4 (fI h) (f_X0_gives_53 h o0 x1 x3) 53 [(0, .ref (w.2.1 (o0))), (1, .int x1), (3, .int x3)] [] h := by
  unfold f_X0_gives_53
  refine g_iload_n (pc := 53) C 2 rfl dX0_gives_53 rfl ?_
  refine g_if_lt (pc := 54) (tgt := 69) C dX0_gives_54 (by decide) (fun hc10 => ?_) (fun hc10 => ?_)
  · refine g_lv (lv' := [(0, .ref (w.2.1 (o0))), (1, .int x1)]) [0, 1] rfl ?_
    exact j_X0_gives_69 C h ho0 x1
  · refine g_aload_n (pc := 57) C 0 rfl dX0_gives_57 rfl ?_
    refine g_get (pc := 58) C (so_RX0 ho0) 7 fl_RX0_29 (v := .ref (w.2.1 (o0 + 7))) rfl dX0_gives_58 ?_
    refine g_iload_n (pc := 61) C 2 rfl dX0_gives_61 rfl ?_
    refine g_iald (pc := 62) C (siB7 ho0) dX0_gives_62 (fun hb14 => ?_)
    refine g_iconst (pc := 63) (v := 2) C dX0_gives_63 kc_2 ?_
    refine g_icmp_ne (pc := 64) (tgt := 69) C dX0_gives_64 (by decide) (fun hc15 => ?_) (fun hc15 => ?_)
    · refine g_iconst (pc := 67) (v := 1) C dX0_gives_67 kc_1 ?_
      exact g_zret C dX0_gives_68 rfl
    · refine g_lv (lv' := [(0, .ref (w.2.1 (o0))), (1, .int x1)]) [0, 1] rfl ?_
      exact j_X0_gives_69 C h ho0 x1
def f_X0_gives (h : TT) (o0 : Nat) (x1 : Int32) : Option Int32 := (f_X7_isBelow h x1 (h.1 o0 4)).bind fun r1 => (if r1 = 0 then some (0 : Int32) else if inb x1 60 = true then (if (h.1 (o0 + 7) x1.toNatClampNeg) = (1 : Int32) then if inb x1 60 = true then nm (h.1 (o0 + 13) x1.toNatClampNeg) fun y6 => if inb x1 60 = true then nm (h.1 (o0 + 14) x1.toNatClampNeg) fun y8 => (if y6 < 0 then f_X0_gives_53 h o0 x1 y8 else if inb y6 60 = true then (if (h.1 (o0 + 7) y6.toNatClampNeg) = (2 : Int32) then some (1 : Int32) else f_X0_gives_53 h o0 x1 y8) else none) else none else none else some (0 : Int32)) else none)
set_option maxRecDepth 20000 in
theorem m_X0_gives {l : Launch} {w : WK} {h : TT} {o0 : Nat} {x1 : Int32} {x : Int32} (hx : f_X0_gives h o0 x1 = some x) (ho0 : IsB o0) : Met l yX0_gives (Cond.code yX0_gives cX0_gives 4 (some .boolean) :: wsG) { frames := 1, cells := 0, slots := 0, locals := 28 } (PG w [.ref (w.2.1 (o0)), .int x1] h) (QG w ((fI h) x)) 0 0 (AA w) := by
  refine m_entry (own := RX0) (f := (fI h)) hx (by decide) rfl (Nat.le_of_ble_eq_true rfl) (fun p e s m args below meth c C => ?_)
  show GO p l e _ s m args below meth c w 4 (fI h) (f_X0_gives h o0 x1) 0 [(0, .ref (w.2.1 (o0))), (1, .int x1)] [] h
  unfold f_X0_gives
  refine g_iload_n (pc := 0) C 1 rfl dX0_gives_0 rfl ?_
  refine g_aload_n (pc := 1) C 0 rfl dX0_gives_1 rfl ?_
  refine g_get (pc := 2) C (so_RX0 ho0) 4 fl_RX0_80 (v := .int (h.1 o0 4)) rfl dX0_gives_2 ?_
  refine g_callI (pc := 5) (rest := []) (g_runN C mn_RX0_138 (fun x1 hx1 => m_X7_isBelow hx1) (by decide) rfl rfl (Nat.le_of_ble_eq_true rfl) dX0_gives_5) (fun r1 => ?_)
  refine g_if_eq (pc := 8) (tgt := 21) C dX0_gives_8 (by decide) (fun hc2 => ?_) (fun hc2 => ?_)
  · refine g_iconst (pc := 21) (v := 0) C dX0_gives_21 kc_0 ?_
    exact g_zret C dX0_gives_22 rfl
  · refine g_aload_n (pc := 11) C 0 rfl dX0_gives_11 rfl ?_
    refine g_get (pc := 12) C (so_RX0 ho0) 7 fl_RX0_29 (v := .ref (w.2.1 (o0 + 7))) rfl dX0_gives_12 ?_
    refine g_iload_n (pc := 15) C 1 rfl dX0_gives_15 rfl ?_
    refine g_iald (pc := 16) C (siB7 ho0) dX0_gives_16 (fun hb3 => ?_)
    refine g_iconst (pc := 17) (v := 1) C dX0_gives_17 kc_1 ?_
    refine g_icmp_eq (pc := 18) (tgt := 23) C dX0_gives_18 (by decide) (fun hc4 => ?_) (fun hc4 => ?_)
    · refine g_aload_n (pc := 23) C 0 rfl dX0_gives_23 rfl ?_
      refine g_get (pc := 24) C (so_RX0 ho0) 13 fl_RX0_48 (v := .ref (w.2.1 (o0 + 13))) rfl dX0_gives_24 ?_
      refine g_iload_n (pc := 27) C 1 rfl dX0_gives_27 rfl ?_
      refine g_iald (pc := 28) C (siB13 ho0) dX0_gives_28 (fun hb5 => ?_)
      refine g_nmi (fun y6 => ?_)
      refine g_istore_n (pc := 29) C dX0_gives_29 rfl (by decide) (lv' := [(2, .int y6), (0, .ref (w.2.1 (o0))), (1, .int x1)]) rfl ?_
      refine g_aload_n (pc := 30) C 1 rfl dX0_gives_30 rfl ?_
      refine g_get (pc := 31) C (so_RX0 ho0) 14 fl_RX0_51 (v := .ref (w.2.1 (o0 + 14))) rfl dX0_gives_31 ?_
      refine g_iload_n (pc := 34) C 2 rfl dX0_gives_34 rfl ?_
      refine g_iald (pc := 35) C (siB14 ho0) dX0_gives_35 (fun hb7 => ?_)
      refine g_nmi (fun y8 => ?_)
      refine g_istore_n (pc := 36) C dX0_gives_36 rfl (by decide) (lv' := [(3, .int y8), (2, .int y6), (0, .ref (w.2.1 (o0))), (1, .int x1)]) rfl ?_
      refine g_iload_n (pc := 37) C 1 rfl dX0_gives_37 rfl ?_
      refine g_if_lt (pc := 38) (tgt := 53) C dX0_gives_38 (by decide) (fun hc9 => ?_) (fun hc9 => ?_)
      · refine g_lv (lv' := [(0, .ref (w.2.1 (o0))), (1, .int x1), (3, .int y8)]) [2, 3, 0] rfl ?_
        exact j_X0_gives_53 C h ho0 x1 y8
      · refine g_aload_n (pc := 41) C 2 rfl dX0_gives_41 rfl ?_
        refine g_get (pc := 42) C (so_RX0 ho0) 7 fl_RX0_29 (v := .ref (w.2.1 (o0 + 7))) rfl dX0_gives_42 ?_
        refine g_iload_n (pc := 45) C 1 rfl dX0_gives_45 rfl ?_
        refine g_iald (pc := 46) C (siB7 ho0) dX0_gives_46 (fun hb16 => ?_)
        refine g_iconst (pc := 47) (v := 2) C dX0_gives_47 kc_2 ?_
        refine g_icmp_ne (pc := 48) (tgt := 53) C dX0_gives_48 (by decide) (fun hc17 => ?_) (fun hc17 => ?_)
        · refine g_iconst (pc := 51) (v := 1) C dX0_gives_51 kc_1 ?_
          exact g_zret C dX0_gives_52 rfl
        · refine g_lv (lv' := [(0, .ref (w.2.1 (o0))), (1, .int x1), (3, .int y8)]) [2, 3, 0] rfl ?_
          exact j_X0_gives_53 C h ho0 x1 y8
    · refine g_iconst (pc := 21) (v := 0) C dX0_gives_21 kc_0 ?_
      exact g_zret C dX0_gives_22 rfl
