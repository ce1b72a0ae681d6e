/-- SnowHouse.isBelow(II)Z -/
def f_X7_isBelow (h : TT) (x0 : Int32) (x1 : Int32) : Option Int32 := (if x0 < 0 then some (0 : Int32) else (if x1 ≤ x0 then some (0 : Int32) else some (1 : Int32)))
set_option maxRecDepth 20000 in
theorem m_X7_isBelow {l : Launch} {w : WK} {h : TT} {x0 : Int32} {x1 : Int32} {x : Int32} (hx : f_X7_isBelow h x0 x1 = some x)  : Met l yX7_isBelow (Cond.code yX7_isBelow cX7_isBelow 2 (some .boolean) :: wsG) { frames := 0, cells := 0, slots := 0, locals := 0 } (PG w [.int x0, .int x1] h) (QG w ((fI h) x)) 0 0 (AA w) := by
  refine m_entry (own := RX7) (f := (fI h)) hx (by decide) rfl (Nat.le_of_ble_eq_true rfl) (fun p e s m args below meth c C => ?_)
  show GO p l e _ s m args below meth c w 2 (fI h) (f_X7_isBelow h x0 x1) 0 [(0, .int x0), (1, .int x1)] [] h
  unfold f_X7_isBelow
  refine g_iload_n (pc := 0) C 0 rfl dX7_isBelow_0 rfl ?_
  refine g_if_lt (pc := 1) (tgt := 13) C dX7_isBelow_1 (by decide) (fun hc1 => ?_) (fun hc1 => ?_)
  · refine g_iconst (pc := 13) (v := 0) C dX7_isBelow_13 kc_0 ?_
    exact g_zret C dX7_isBelow_14 rfl
  · refine g_iload_n (pc := 4) C 0 rfl dX7_isBelow_4 rfl ?_
    refine g_iload_n (pc := 5) C 1 rfl dX7_isBelow_5 rfl ?_
    refine g_icmp_ge (pc := 6) (tgt := 13) C dX7_isBelow_6 (by decide) (fun hc2 => ?_) (fun hc2 => ?_)
    · refine g_iconst (pc := 13) (v := 0) C dX7_isBelow_13 kc_0 ?_
      exact g_zret C dX7_isBelow_14 rfl
    · refine g_iconst (pc := 9) (v := 1) C dX7_isBelow_9 kc_1 ?_
      refine g_goto (pc := 10) (tgt := 14) C dX7_isBelow_10 (by decide) ?_
      exact g_zret C dX7_isBelow_14 rfl
/-- SnowHouse.isUpTo(II)Z -/
def f_X7_isUpTo (h : TT) (x0 : Int32) (x1 : Int32) : Option Int32 := (if x0 < 0 then some (0 : Int32) else (if x1 < x0 then some (0 : Int32) else some (1 : Int32)))
set_option maxRecDepth 20000 in
theorem m_X7_isUpTo {l : Launch} {w : WK} {h : TT} {x0 : Int32} {x1 : Int32} {x : Int32} (hx : f_X7_isUpTo h x0 x1 = some x)  : Met l yX7_isUpTo (Cond.code yX7_isUpTo cX7_isUpTo 2 (some .boolean) :: wsG) { frames := 0, cells := 0, slots := 0, locals := 0 } (PG w [.int x0, .int x1] h) (QG w ((fI h) x)) 0 0 (AA w) := by
  refine m_entry (own := RX7) (f := (fI h)) hx (by decide) rfl (Nat.le_of_ble_eq_true rfl) (fun p e s m args below meth c C => ?_)
  show GO p l e _ s m args below meth c w 2 (fI h) (f_X7_isUpTo h x0 x1) 0 [(0, .int x0), (1, .int x1)] [] h
  unfold f_X7_isUpTo
  refine g_iload_n (pc := 0) C 0 rfl dX7_isUpTo_0 rfl ?_
  refine g_if_lt (pc := 1) (tgt := 13) C dX7_isUpTo_1 (by decide) (fun hc1 => ?_) (fun hc1 => ?_)
  · refine g_iconst (pc := 13) (v := 0) C dX7_isUpTo_13 kc_0 ?_
    exact g_zret C dX7_isUpTo_14 rfl
  · refine g_iload_n (pc := 4) C 0 rfl dX7_isUpTo_4 rfl ?_
    refine g_iload_n (pc := 5) C 1 rfl dX7_isUpTo_5 rfl ?_
    refine g_icmp_gt (pc := 6) (tgt := 13) C dX7_isUpTo_6 (by decide) (fun hc2 => ?_) (fun hc2 => ?_)
    · refine g_iconst (pc := 13) (v := 0) C dX7_isUpTo_13 kc_0 ?_
      exact g_zret C dX7_isUpTo_14 rfl
    · refine g_iconst (pc := 9) (v := 1) C dX7_isUpTo_9 kc_1 ?_
      refine g_goto (pc := 10) (tgt := 14) C dX7_isUpTo_10 (by decide) ?_
      exact g_zret C dX7_isUpTo_14 rfl
/-- SnowHouse.found(I)I -/
def f_X7_found (h : TT) (x1 : Int32) : Option (Int32 × TT) := nm (wr h 0 16 x1) fun h1 => (f_X7_isUpTo h1 x1 (5 : Int32)).bind fun r2 => (if r2 = 0 then some ((-3 : Int32), h1) else if inb x1 6 = true then if inb x1 6 = true then nm (wr h1 146 x1.toNatClampNeg ((h1.1 146 x1.toNatClampNeg) + (1 : Int32))) fun h6 => some ((-3 : Int32), h6) else none else none)
set_option maxRecDepth 20000 in
theorem m_X7_found {l : Launch} {w : WK} {h : TT} {x1 : Int32} {x : (Int32 × TT)} (hx : f_X7_found h x1 = some x)  : Met l yX7_found (Cond.code yX7_found cX7_found 2 (some .int) :: wsG) { frames := 1, cells := 0, slots := 0, locals := 21 } (PG w [.ref (w.2.1 (0)), .int x1] h) (QG w (fIT x)) 0 0 (AA w) := by
  refine m_entry (own := RX7) (f := fIT) hx (by decide) rfl (Nat.le_of_ble_eq_true rfl) (fun p e s m args below meth c C => ?_)
  show GO p l e _ s m args below meth c w 2 fIT (f_X7_found h x1) 0 [(0, .ref (w.2.1 (0))), (1, .int x1)] [] h
  unfold f_X7_found
  refine g_aload_n (pc := 0) C 0 rfl dX7_found_0 rfl ?_
  refine g_iload_n (pc := 1) C 1 rfl dX7_found_1 rfl ?_
  refine g_putI (pc := 2) C so_RX7 16 fp_RX7_99 (se_RX7_16 _) rfl rfl (sl_RX7_16) dX7_found_2 ?_
  refine g_nm (fun h1 => ?_)
  refine g_iload_n (pc := 5) C 1 rfl dX7_found_5 rfl ?_
  refine g_iconst (pc := 6) (v := 5) C dX7_found_6 kc_5 ?_
  refine g_callI (pc := 7) (rest := []) (g_runS C ms_RX7_186 (fun x1 hx1 => m_X7_isUpTo hx1) (by decide) rfl rfl (Nat.le_of_ble_eq_true rfl) dX7_found_7) (fun r2 => ?_)
  refine g_if_eq (pc := 10) (tgt := 23) C dX7_found_10 (by decide) (fun hc3 => ?_) (fun hc3 => ?_)
  · refine g_bipush (pc := 23) (v := -3) C dX7_found_23 kb_m3 ?_
    exact g_iretT C dX7_found_25
  · refine g_aload_n (pc := 13) C 0 rfl dX7_found_13 rfl ?_
    refine g_get (pc := 14) C so_RX7 17 fl_RX7_102 (v := .ref (w.2.1 (146))) rfl dX7_found_14 ?_
    refine g_iload_n (pc := 17) C 1 rfl dX7_found_17 rfl ?_
    refine g_dup2 (pc := 18) C dX7_found_18 rfl rfl ?_
    refine g_iald (pc := 19) C si_146 dX7_found_19 (fun hb4 => ?_)
    refine g_iconst (pc := 20) (v := 1) C dX7_found_20 kc_1 ?_
    refine g_iadd (pc := 21) C dX7_found_21 ?_
    refine g_iast (pc := 22) C si_146 dX7_found_22 (fun hb5 => ?_)
    refine g_nm (fun h6 => ?_)
    refine g_bipush (pc := 23) (v := -3) C dX7_found_23 kb_m3 ?_
    exact g_iretT C dX7_found_25
/-- java/util/Arrays.fill([II)V -/
def f_J7_fill_53178_5 (o0 n0 : Nat)  : Nat → Int32 → Int32 → Int32 → TT → Option TT
  | 0, _, _, _, _ => none
  | n + 1, x1, x2, x3, h => (if x3 ≤ x2 then some h else if inb x2 n0 = true then nm (wr h o0 x2.toNatClampNeg x1) fun h4 => f_J7_fill_53178_5 o0 n0 n x1 (x2 + (1 : Int32)) x3 h4 else none)
set_option maxRecDepth 20000 in
theorem j_J7_fill_53178_5 {p : Program} {l : Launch} {e : Env} {R : Room} {s : State} {m : MethodId} {args : Array Value} {below : List Frame} {meth : Method} {c : Code} {w : WK} (C : CX p R s m args meth c w RJ7 cJ7_fill_53178 4 none 0 0)  {o0 n0 : Nat} (ho0 : SI w o0 n0)  : ∀ (n : Nat) (x1 : Int32) (x2 : Int32) (x3 : Int32) (h : TT), GO p l e R s m args below meth c w 4 fV (f_J7_fill_53178_5 o0 n0 n x1 x2 x3 h) 5 [(0, .ref (w.2.1 (o0))), (1, .int x1), (2, .int x2), (3, .int x3)] [] h := by
  intro n
  induction n with
  | zero =>
    intro x1 x2 x3 h
    exact g_none
  | succ n ih =>
    intro x1 x2 x3 h
    rw [f_J7_fill_53178_5]
    refine g_iload_n (pc := 5) C 2 rfl dJ7_fill_53178_5 rfl ?_
    refine g_iload_n (pc := 6) C 3 rfl dJ7_fill_53178_6 rfl ?_
    refine g_icmp_ge (pc := 7) (tgt := 20) C dJ7_fill_53178_7 (by decide) (fun hc2 => ?_) (fun hc2 => ?_)
    · exact g_vret C dJ7_fill_53178_20
    · refine g_aload_n (pc := 10) C 0 rfl dJ7_fill_53178_10 rfl ?_
      refine g_iload_n (pc := 11) C 2 rfl dJ7_fill_53178_11 rfl ?_
      refine g_iload_n (pc := 12) C 1 rfl dJ7_fill_53178_12 rfl ?_
      refine g_iast (pc := 13) C ho0 dJ7_fill_53178_13 (fun hb3 => ?_)
      refine g_nm (fun h4 => ?_)
      refine g_iinc (pc := 14) C 2 rfl dJ7_fill_53178_14 (ki_1 _) (by decide) (lv' := [(2, .int (x2 + (1 : Int32))), (0, .ref (w.2.1 (o0))), (1, .int x1), (3, .int x3)]) rfl ?_
      refine g_goto (pc := 17) (tgt := 5) C dJ7_fill_53178_17 (by decide) ?_
      refine g_lv (lv' := [(0, .ref (w.2.1 (o0))), (1, .int x1), (2, .int (x2 + (1 : Int32))), (3, .int x3)]) [1, 2, 0, 3] rfl ?_
      exact ih x1 (x2 + (1 : Int32)) x3 h4
def f_J7_fill_53178 (h : TT) (o0 n0 : Nat) (x1 : Int32) : Option TT := nm (nI n0) fun y1 => f_J7_fill_53178_5 o0 n0 KF x1 (0 : Int32) y1 h
set_option maxRecDepth 20000 in
theorem m_J7_fill_53178 {l : Launch} {w : WK} {h : TT} {o0 n0 : Nat} {x1 : Int32} {x : TT} (hx : f_J7_fill_53178 h o0 n0 x1 = some x) (ho0 : SI w o0 n0) : Met l yJ7_fill_53178 (Cond.code yJ7_fill_53178 cJ7_fill_53178 4 none :: wsG) { frames := 0, cells := 0, slots := 0, locals := 0 } (PG w [.ref (w.2.1 (o0)), .int x1] h) (QG w (fV x)) 0 0 (AA w) := by
  refine m_entry (own := RJ7) (f := fV) hx (by decide) rfl (Nat.le_of_ble_eq_true rfl) (fun p e s m args below meth c C => ?_)
  show GO p l e _ s m args below meth c w 4 fV (f_J7_fill_53178 h o0 n0 x1) 0 [(0, .ref (w.2.1 (o0))), (1, .int x1)] [] h
  unfold f_J7_fill_53178
  refine g_iconst (pc := 0) (v := 0) C dJ7_fill_53178_0 kc_0 ?_
  refine g_istore_n (pc := 1) C dJ7_fill_53178_1 rfl (by decide) (lv' := [(2, .int (0 : Int32)), (0, .ref (w.2.1 (o0))), (1, .int x1)]) rfl ?_
  refine g_aload_n (pc := 2) C 1 rfl dJ7_fill_53178_2 rfl ?_
  refine g_ialen (pc := 3) C ho0 dJ7_fill_53178_3 ?_
  refine g_nmi (fun y1 => ?_)
  refine g_istore_n (pc := 4) C dJ7_fill_53178_4 rfl (by decide) (lv' := [(3, .int y1), (2, .int (0 : Int32)), (0, .ref (w.2.1 (o0))), (1, .int x1)]) rfl ?_
  refine g_lv (lv' := [(0, .ref (w.2.1 (o0))), (1, .int x1), (2, .int (0 : Int32)), (3, .int y1)]) [2, 3, 1, 0] rfl ?_
  exact j_J7_fill_53178_5 C ho0 KF x1 (0 : Int32) y1 h
/-- SnowHouse.row(II)I -/
def f_X7_row (h : TT) (x1 : Int32) (x2 : Int32) : Option (Int32 × TT) := (f_X7_isBelow h x1 (6 : Int32)).bind fun r1 => (if r1 = 0 then some ((-1 : Int32), h) else (if x2 ≤ (60 : Int32) then (if 0 ≤ x2 then if inb x1 6 = true then (f_J7_fill_53178 h (2 + x1.toNatClampNeg) 60 (0 : Int32)).bind fun h6 => if inb x1 6 = true then nm (wr h6 8 x1.toNatClampNeg x2) fun h8 => some (x2, h8) else none else none else (f_X7_found h (5 : Int32)).bind fun q9 => some (q9.1, q9.2)) else some ((-1 : Int32), h)))
set_option maxRecDepth 20000 in
theorem m_X7_row {l : Launch} {w : WK} {h : TT} {x1 : Int32} {x2 : Int32} {x : (Int32 × TT)} (hx : f_X7_row h x1 x2 = some x)  : Met l yX7_row (Cond.code yX7_row cX7_row 3 (some .int) :: wsG) { frames := 2, cells := 0, slots := 0, locals := 42 } (PG w [.ref (w.2.1 (0)), .int x1, .int x2] h) (QG w (fIT x)) 0 0 (AA w) := by
  refine m_entry (own := RX7) (f := fIT) hx (by decide) rfl (Nat.le_of_ble_eq_true rfl) (fun p e s m args below meth c C => ?_)
  show GO p l e _ s m args below meth c w 3 fIT (f_X7_row h x1 x2) 0 [(0, .ref (w.2.1 (0))), (1, .int x1), (2, .int x2)] [] h
  unfold f_X7_row
  refine g_iload_n (pc := 0) C 1 rfl dX7_row_0 rfl ?_
  refine g_bipush (pc := 1) (v := 6) C dX7_row_1 kb_6 ?_
  refine g_callI (pc := 3) (rest := []) (g_runS C ms_RX7_105 (fun x1 hx1 => m_X7_isBelow hx1) (by decide) rfl rfl (Nat.le_of_ble_eq_true rfl) dX7_row_3) (fun r1 => ?_)
  refine g_if_eq (pc := 6) (tgt := 15) C dX7_row_6 (by decide) (fun hc2 => ?_) (fun hc2 => ?_)
  · refine g_iconst (pc := 15) (v := -1) C dX7_row_15 kc_m1 ?_
    exact g_iretT C dX7_row_16
  · refine g_iload_n (pc := 9) C 2 rfl dX7_row_9 rfl ?_
    refine g_bipush (pc := 10) (v := 60) C dX7_row_10 kb_60 ?_
    refine g_icmp_le (pc := 12) (tgt := 17) C dX7_row_12 (by decide) (fun hc3 => ?_) (fun hc3 => ?_)
    · refine g_iload_n (pc := 17) C 2 rfl dX7_row_17 rfl ?_
      refine g_if_ge (pc := 18) (tgt := 27) C dX7_row_18 (by decide) (fun hc4 => ?_) (fun hc4 => ?_)
      · refine g_aload_n (pc := 27) C 0 rfl dX7_row_27 rfl ?_
        refine g_get (pc := 28) C so_RX7 0 fl_RX7_11 (v := .ref (w.2.1 (1))) rfl dX7_row_28 ?_
        refine g_iload_n (pc := 31) C 1 rfl dX7_row_31 rfl ?_
        refine g_aald (pc := 32) (cA := 0) C sr_rows rfl rfl dX7_row_32 (fun hb5 => ?_)
        refine g_iconst (pc := 33) (v := 0) C dX7_row_33 kc_0 ?_
        refine g_callV (pc := 34) (rest := []) (g_runS C ms_RX7_18 (fun x1 hx1 => m_J7_fill_53178 hx1 (siRow hb5)) (by decide) rfl rfl (Nat.le_of_ble_eq_true rfl) dX7_row_34) (fun h6 => ?_)
        refine g_aload_n (pc := 37) C 0 rfl dX7_row_37 rfl ?_
        refine g_get (pc := 38) C so_RX7 1 fl_RX7_14 (v := .ref (w.2.1 (8))) rfl dX7_row_38 ?_
        refine g_iload_n (pc := 41) C 1 rfl dX7_row_41 rfl ?_
        refine g_iload_n (pc := 42) C 2 rfl dX7_row_42 rfl ?_
        refine g_iast (pc := 43) C si_8 dX7_row_43 (fun hb7 => ?_)
        refine g_nm (fun h8 => ?_)
        refine g_iload_n (pc := 44) C 2 rfl dX7_row_44 rfl ?_
        exact g_iretT C dX7_row_45
      · refine g_aload_n (pc := 21) C 0 rfl dX7_row_21 rfl ?_
        refine g_iconst (pc := 22) (v := 5) C dX7_row_22 kc_5 ?_
        refine g_callIT (pc := 23) (rest := []) (g_runV C mv_RX7_109 (fun x1 hx1 => m_X7_found hx1) so_RX7 rfl (by decide) rfl rfl (Nat.le_of_ble_eq_true rfl) dX7_row_23) (fun q9 => ?_)
        exact g_iretT C dX7_row_26
    · refine g_iconst (pc := 15) (v := -1) C dX7_row_15 kc_m1 ?_
      exact g_iretT C dX7_row_16
/-- SnowHouse.tell(I)I -/
def f_X7_tell (h : TT) (x1 : Int32) : Option (Int32 × TT) := nm (wr h 0 13 x1) fun h1 => some ((1 : Int32), h1)
set_option maxRecDepth 20000 in
theorem m_X7_tell {l : Launch} {w : WK} {h : TT} {x1 : Int32} {x : (Int32 × TT)} (hx : f_X7_tell h x1 = some x)  : Met l yX7_tell (Cond.code yX7_tell cX7_tell 2 (some .int) :: wsG) { frames := 0, cells := 0, slots := 0, locals := 0 } (PG w [.ref (w.2.1 (0)), .int x1] h) (QG w (fIT x)) 0 0 (AA w) := by
  refine m_entry (own := RX7) (f := fIT) hx (by decide) rfl (Nat.le_of_ble_eq_true rfl) (fun p e s m args below meth c C => ?_)
  show GO p l e _ s m args below meth c w 2 fIT (f_X7_tell h x1) 0 [(0, .ref (w.2.1 (0))), (1, .int x1)] [] h
  unfold f_X7_tell
  refine g_aload_n (pc := 0) C 0 rfl dX7_tell_0 rfl ?_
  refine g_iload_n (pc := 1) C 1 rfl dX7_tell_1 rfl ?_
  refine g_putI (pc := 2) C so_RX7 13 fp_RX7_88 (se_RX7_13 _) rfl rfl (sl_RX7_13) dX7_tell_2 ?_
  refine g_nm (fun h1 => ?_)
  refine g_iconst (pc := 5) (v := 1) C dX7_tell_5 kc_1 ?_
  exact g_iretT C dX7_tell_6
/-- SnowHouse.lay(III)I -/
def f_X7_lay (h : TT) (x1 : Int32) (x2 : Int32) (x3 : Int32) : Option (Int32 × TT) := (f_X7_isBelow h x1 (6 : Int32)).bind fun r1 => (if r1 = 0 then some ((-1 : Int32), h) else if inb x1 6 = true then (if 0 ≤ (h.1 8 x1.toNatClampNeg) then if inb x1 6 = true then (f_X7_isBelow h x2 (h.1 8 x1.toNatClampNeg)).bind fun r6 => (if r6 = 0 then (f_X7_found h (2 : Int32)).bind fun q8 => some (q8.1, q8.2) else if inb x1 6 = true then if inb x2 60 = true then nm (h.1 (2 + x1.toNatClampNeg) x2.toNatClampNeg) fun y11 => if inb x1 6 = true then if inb x2 60 = true then nm (wr h (2 + x1.toNatClampNeg) x2.toNatClampNeg x3) fun h14 => (f_X7_tell h14 y11).bind fun q15 => some (q15.1, q15.2) else none else none else none else none) else none else (f_X7_found h (1 : Int32)).bind fun q16 => some (q16.1, q16.2)) else none)
set_option maxRecDepth 20000 in
theorem m_X7_lay {l : Launch} {w : WK} {h : TT} {x1 : Int32} {x2 : Int32} {x3 : Int32} {x : (Int32 × TT)} (hx : f_X7_lay h x1 x2 x3 = some x)  : Met l yX7_lay (Cond.code yX7_lay cX7_lay 5 (some .int) :: wsG) { frames := 2, cells := 0, slots := 0, locals := 42 } (PG w [.ref (w.2.1 (0)), .int x1, .int x2, .int x3] h) (QG w (fIT x)) 0 0 (AA w) := by
  refine m_entry (own := RX7) (f := fIT) hx (by decide) rfl (Nat.le_of_ble_eq_true rfl) (fun p e s m args below meth c C => ?_)
  show GO p l e _ s m args below meth c w 5 fIT (f_X7_lay h x1 x2 x3) 0 [(0, .ref (w.2.1 (0))), (1, .int x1), (2, .int x2), (3, .int x3)] [] h
  unfold f_X7_lay
  refine g_iload_n (pc := 0) C 1 rfl dX7_lay_0 rfl ?_
  refine g_bipush (pc := 1) (v := 6) C dX7_lay_1 kb_6 ?_
  refine g_callI (pc := 3) (rest := []) (g_runS C ms_RX7_105 (fun x1 hx1 => m_X7_isBelow hx1) (by decide) rfl rfl (Nat.le_of_ble_eq_true rfl) dX7_lay_3) (fun r1 => ?_)
  refine g_if_ne (pc := 6) (tgt := 11) C dX7_lay_6 (by decide) (fun hc2 => ?_) (fun hc2 => ?_)
  · refine g_iconst (pc := 9) (v := -1) C dX7_lay_9 kc_m1 ?_
    exact g_iretT C dX7_lay_10
  · refine g_aload_n (pc := 11) C 0 rfl dX7_lay_11 rfl ?_
    refine g_get (pc := 12) C so_RX7 1 fl_RX7_14 (v := .ref (w.2.1 (8))) rfl dX7_lay_12 ?_
    refine g_iload_n (pc := 15) C 1 rfl dX7_lay_15 rfl ?_
    refine g_iald (pc := 16) C si_8 dX7_lay_16 (fun hb3 => ?_)
    refine g_if_ge (pc := 17) (tgt := 26) C dX7_lay_17 (by decide) (fun hc4 => ?_) (fun hc4 => ?_)
    · refine g_iload_n (pc := 26) C 2 rfl dX7_lay_26 rfl ?_
      refine g_aload_n (pc := 27) C 0 rfl dX7_lay_27 rfl ?_
      refine g_get (pc := 28) C so_RX7 1 fl_RX7_14 (v := .ref (w.2.1 (8))) rfl dX7_lay_28 ?_
      refine g_iload_n (pc := 31) C 1 rfl dX7_lay_31 rfl ?_
      refine g_iald (pc := 32) C si_8 dX7_lay_32 (fun hb5 => ?_)
      refine g_callI (pc := 33) (rest := []) (g_runS C ms_RX7_105 (fun x1 hx1 => m_X7_isBelow hx1) (by decide) rfl rfl (Nat.le_of_ble_eq_true rfl) dX7_lay_33) (fun r6 => ?_)
      refine g_if_ne (pc := 36) (tgt := 45) C dX7_lay_36 (by decide) (fun hc7 => ?_) (fun hc7 => ?_)
      · refine g_aload_n (pc := 39) C 0 rfl dX7_lay_39 rfl ?_
        refine g_iconst (pc := 40) (v := 2) C dX7_lay_40 kc_2 ?_
        refine g_callIT (pc := 41) (rest := []) (g_runV C mv_RX7_109 (fun x1 hx1 => m_X7_found hx1) so_RX7 rfl (by decide) rfl rfl (Nat.le_of_ble_eq_true rfl) dX7_lay_41) (fun q8 => ?_)
        exact g_iretT C dX7_lay_44
      · refine g_aload_n (pc := 45) C 0 rfl dX7_lay_45 rfl ?_
        refine g_get (pc := 46) C so_RX7 0 fl_RX7_11 (v := .ref (w.2.1 (1))) rfl dX7_lay_46 ?_
        refine g_iload_n (pc := 49) C 1 rfl dX7_lay_49 rfl ?_
        refine g_aald (pc := 50) (cA := 0) C sr_rows rfl rfl dX7_lay_50 (fun hb9 => ?_)
        refine g_iload_n (pc := 51) C 2 rfl dX7_lay_51 rfl ?_
        refine g_iald (pc := 52) C (siRow hb9) dX7_lay_52 (fun hb10 => ?_)
        refine g_nmi (fun y11 => ?_)
        refine g_istore (pc := 53) C dX7_lay_53 (by decide) (lv' := [(4, .int y11), (0, .ref (w.2.1 (0))), (1, .int x1), (2, .int x2), (3, .int x3)]) rfl ?_
        refine g_aload_n (pc := 55) C 1 rfl dX7_lay_55 rfl ?_
        refine g_get (pc := 56) C so_RX7 0 fl_RX7_11 (v := .ref (w.2.1 (1))) rfl dX7_lay_56 ?_
        refine g_iload_n (pc := 59) C 2 rfl dX7_lay_59 rfl ?_
        refine g_aald (pc := 60) (cA := 0) C sr_rows rfl rfl dX7_lay_60 (fun hb12 => ?_)
        refine g_iload_n (pc := 61) C 3 rfl dX7_lay_61 rfl ?_
        refine g_iload_n (pc := 62) C 4 rfl dX7_lay_62 rfl ?_
        refine g_iast (pc := 63) C (siRow hb12) dX7_lay_63 (fun hb13 => ?_)
        refine g_nm (fun h14 => ?_)
        refine g_aload_n (pc := 64) C 1 rfl dX7_lay_64 rfl ?_
        refine g_iload (pc := 65) C 0 rfl dX7_lay_65 ?_
        refine g_callIT (pc := 67) (rest := []) (g_runV C mv_RX7_113 (fun x1 hx1 => m_X7_tell hx1) so_RX7 rfl (by decide) rfl rfl (Nat.le_of_ble_eq_true rfl) dX7_lay_67) (fun q15 => ?_)
        exact g_iretT C dX7_lay_70
    · refine g_aload_n (pc := 20) C 0 rfl dX7_lay_20 rfl ?_
      refine g_iconst (pc := 21) (v := 1) C dX7_lay_21 kc_1 ?_
      refine g_callIT (pc := 22) (rest := []) (g_runV C mv_RX7_109 (fun x1 hx1 => m_X7_found hx1) so_RX7 rfl (by decide) rfl rfl (Nat.le_of_ble_eq_true rfl) dX7_lay_22) (fun q16 => ?_)
      exact g_iretT C dX7_lay_25
/-- SnowHouse.at(II)I -/
def f_X7_at (h : TT) (x1 : Int32) (x2 : Int32) : Option (Int32 × TT) := (f_X7_isBelow h x1 (6 : Int32)).bind fun r1 => (if r1 = 0 then some ((-1 : Int32), h) else if inb x1 6 = true then (if 0 ≤ (h.1 8 x1.toNatClampNeg) then if inb x1 6 = true then (f_X7_isBelow h x2 (h.1 8 x1.toNatClampNeg)).bind fun r6 => (if r6 = 0 then (f_X7_found h (2 : Int32)).bind fun q8 => some (q8.1, q8.2) else if inb x1 6 = true then if inb x2 60 = true then (f_X7_tell h (h.1 (2 + x1.toNatClampNeg) x2.toNatClampNeg)).bind fun q11 => some (q11.1, q11.2) else none else none) else none else (f_X7_found h (1 : Int32)).bind fun q12 => some (q12.1, q12.2)) else none)
set_option maxRecDepth 20000 in
theorem m_X7_at {l : Launch} {w : WK} {h : TT} {x1 : Int32} {x2 : Int32} {x : (Int32 × TT)} (hx : f_X7_at h x1 x2 = some x)  : Met l yX7_at (Cond.code yX7_at cX7_at 3 (some .int) :: wsG) { frames := 2, cells := 0, slots := 0, locals := 42 } (PG w [.ref (w.2.1 (0)), .int x1, .int x2] h) (QG w (fIT x)) 0 0 (AA w) := by
  refine m_entry (own := RX7) (f := fIT) hx (by decide) rfl (Nat.le_of_ble_eq_true rfl) (fun p e s m args below meth c C => ?_)
  show GO p l e _ s m args below meth c w 3 fIT (f_X7_at h x1 x2) 0 [(0, .ref (w.2.1 (0))), (1, .int x1), (2, .int x2)] [] h
  unfold f_X7_at
  refine g_iload_n (pc := 0) C 1 rfl dX7_at_0 rfl ?_
  refine g_bipush (pc := 1) (v := 6) C dX7_at_1 kb_6 ?_
  refine g_callI (pc := 3) (rest := []) (g_runS C ms_RX7_105 (fun x1 hx1 => m_X7_isBelow hx1) (by decide) rfl rfl (Nat.le_of_ble_eq_true rfl) dX7_at_3) (fun r1 => ?_)
  refine g_if_ne (pc := 6) (tgt := 11) C dX7_at_6 (by decide) (fun hc2 => ?_) (fun hc2 => ?_)
  · refine g_iconst (pc := 9) (v := -1) C dX7_at_9 kc_m1 ?_
    exact g_iretT C dX7_at_10
  · refine g_aload_n (pc := 11) C 0 rfl dX7_at_11 rfl ?_
    refine g_get (pc := 12) C so_RX7 1 fl_RX7_14 (v := .ref (w.2.1 (8))) rfl dX7_at_12 ?_
    refine g_iload_n (pc := 15) C 1 rfl dX7_at_15 rfl ?_
    refine g_iald (pc := 16) C si_8 dX7_at_16 (fun hb3 => ?_)
    refine g_if_ge (pc := 17) (tgt := 26) C dX7_at_17 (by decide) (fun hc4 => ?_) (fun hc4 => ?_)
    · refine g_iload_n (pc := 26) C 2 rfl dX7_at_26 rfl ?_
      refine g_aload_n (pc := 27) C 0 rfl dX7_at_27 rfl ?_
      refine g_get (pc := 28) C so_RX7 1 fl_RX7_14 (v := .ref (w.2.1 (8))) rfl dX7_at_28 ?_
      refine g_iload_n (pc := 31) C 1 rfl dX7_at_31 rfl ?_
      refine g_iald (pc := 32) C si_8 dX7_at_32 (fun hb5 => ?_)
      refine g_callI (pc := 33) (rest := []) (g_runS C ms_RX7_105 (fun x1 hx1 => m_X7_isBelow hx1) (by decide) rfl rfl (Nat.le_of_ble_eq_true rfl) dX7_at_33) (fun r6 => ?_)
      refine g_if_ne (pc := 36) (tgt := 45) C dX7_at_36 (by decide) (fun hc7 => ?_) (fun hc7 => ?_)
      · refine g_aload_n (pc := 39) C 0 rfl dX7_at_39 rfl ?_
        refine g_iconst (pc := 40) (v := 2) C dX7_at_40 kc_2 ?_
        refine g_callIT (pc := 41) (rest := []) (g_runV C mv_RX7_109 (fun x1 hx1 => m_X7_found hx1) so_RX7 rfl (by decide) rfl rfl (Nat.le_of_ble_eq_true rfl) dX7_at_41) (fun q8 => ?_)
        exact g_iretT C dX7_at_44
      · refine g_aload_n (pc := 45) C 0 rfl dX7_at_45 rfl ?_
        refine g_aload_n (pc := 46) C 0 rfl dX7_at_46 rfl ?_
        refine g_get (pc := 47) C so_RX7 0 fl_RX7_11 (v := .ref (w.2.1 (1))) rfl dX7_at_47 ?_
        refine g_iload_n (pc := 50) C 1 rfl dX7_at_50 rfl ?_
        refine g_aald (pc := 51) (cA := 0) C sr_rows rfl rfl dX7_at_51 (fun hb9 => ?_)
        refine g_iload_n (pc := 52) C 2 rfl dX7_at_52 rfl ?_
        refine g_iald (pc := 53) C (siRow hb9) dX7_at_53 (fun hb10 => ?_)
        refine g_callIT (pc := 54) (rest := []) (g_runV C mv_RX7_113 (fun x1 hx1 => m_X7_tell hx1) so_RX7 rfl (by decide) rfl rfl (Nat.le_of_ble_eq_true rfl) dX7_at_54) (fun q11 => ?_)
        exact g_iretT C dX7_at_57
    · refine g_aload_n (pc := 20) C 0 rfl dX7_at_20 rfl ?_
      refine g_iconst (pc := 21) (v := 1) C dX7_at_21 kc_1 ?_
      refine g_callIT (pc := 22) (rest := []) (g_runV C mv_RX7_109 (fun x1 hx1 => m_X7_found hx1) so_RX7 rfl (by decide) rfl rfl (Nat.le_of_ble_eq_true rfl) dX7_at_22) (fun q12 => ?_)
      exact g_iretT C dX7_at_25
/-- SnowHouse.tear(I)I -/
def f_X7_tear (h : TT) (x1 : Int32) : Option (Int32 × TT) := (f_X7_isBelow h x1 (6 : Int32)).bind fun r1 => (if r1 = 0 then some ((-1 : Int32), h) else if inb x1 6 = true then (if 0 ≤ (h.1 8 x1.toNatClampNeg) then if inb x1 6 = true then nm (wr h 8 x1.toNatClampNeg (-1 : Int32)) fun h6 => some ((1 : Int32), h6) else none else (f_X7_found h (1 : Int32)).bind fun q7 => some (q7.1, q7.2)) else none)
set_option maxRecDepth 20000 in
theorem m_X7_tear {l : Launch} {w : WK} {h : TT} {x1 : Int32} {x : (Int32 × TT)} (hx : f_X7_tear h x1 = some x)  : Met l yX7_tear (Cond.code yX7_tear cX7_tear 2 (some .int) :: wsG) { frames := 2, cells := 0, slots := 0, locals := 42 } (PG w [.ref (w.2.1 (0)), .int x1] h) (QG w (fIT x)) 0 0 (AA w) := by
  refine m_entry (own := RX7) (f := fIT) hx (by decide) rfl (Nat.le_of_ble_eq_true rfl) (fun p e s m args below meth c C => ?_)
  show GO p l e _ s m args below meth c w 2 fIT (f_X7_tear h x1) 0 [(0, .ref (w.2.1 (0))), (1, .int x1)] [] h
  unfold f_X7_tear
  refine g_iload_n (pc := 0) C 1 rfl dX7_tear_0 rfl ?_
  refine g_bipush (pc := 1) (v := 6) C dX7_tear_1 kb_6 ?_
  refine g_callI (pc := 3) (rest := []) (g_runS C ms_RX7_105 (fun x1 hx1 => m_X7_isBelow hx1) (by decide) rfl rfl (Nat.le_of_ble_eq_true rfl) dX7_tear_3) (fun r1 => ?_)
  refine g_if_ne (pc := 6) (tgt := 11) C dX7_tear_6 (by decide) (fun hc2 => ?_) (fun hc2 => ?_)
  · refine g_iconst (pc := 9) (v := -1) C dX7_tear_9 kc_m1 ?_
    exact g_iretT C dX7_tear_10
  · refine g_aload_n (pc := 11) C 0 rfl dX7_tear_11 rfl ?_
    refine g_get (pc := 12) C so_RX7 1 fl_RX7_14 (v := .ref (w.2.1 (8))) rfl dX7_tear_12 ?_
    refine g_iload_n (pc := 15) C 1 rfl dX7_tear_15 rfl ?_
    refine g_iald (pc := 16) C si_8 dX7_tear_16 (fun hb3 => ?_)
    refine g_if_ge (pc := 17) (tgt := 26) C dX7_tear_17 (by decide) (fun hc4 => ?_) (fun hc4 => ?_)
    · refine g_aload_n (pc := 26) C 0 rfl dX7_tear_26 rfl ?_
      refine g_get (pc := 27) C so_RX7 1 fl_RX7_14 (v := .ref (w.2.1 (8))) rfl dX7_tear_27 ?_
      refine g_iload_n (pc := 30) C 1 rfl dX7_tear_30 rfl ?_
      refine g_iconst (pc := 31) (v := -1) C dX7_tear_31 kc_m1 ?_
      refine g_iast (pc := 32) C si_8 dX7_tear_32 (fun hb5 => ?_)
      refine g_nm (fun h6 => ?_)
      refine g_iconst (pc := 33) (v := 1) C dX7_tear_33 kc_1 ?_
      exact g_iretT C dX7_tear_34
    · refine g_aload_n (pc := 20) C 0 rfl dX7_tear_20 rfl ?_
      refine g_iconst (pc := 21) (v := 1) C dX7_tear_21 kc_1 ?_
      refine g_callIT (pc := 22) (rest := []) (g_runV C mv_RX7_109 (fun x1 hx1 => m_X7_found hx1) so_RX7 rfl (by decide) rfl rfl (Nat.le_of_ble_eq_true rfl) dX7_tear_22) (fun q7 => ?_)
      exact g_iretT C dX7_tear_25
/-- SnowHouse.hasPlaces(III)Z -/
def f_X7_hasPlaces (h : TT) (x0 : Int32) (x1 : Int32) (x2 : Int32) : Option Int32 := (if x1 < 0 then some (0 : Int32) else (if x0 < x2 then some (0 : Int32) else (if (x0 - x2) < x1 then some (0 : Int32) else some (1 : Int32))))
set_option maxRecDepth 20000 in
theorem m_X7_hasPlaces {l : Launch} {w : WK} {h : TT} {x0 : Int32} {x1 : Int32} {x2 : Int32} {x : Int32} (hx : f_X7_hasPlaces h x0 x1 x2 = some x)  : Met l yX7_hasPlaces (Cond.code yX7_hasPlaces cX7_hasPlaces 3 (some .boolean) :: wsG) { frames := 0, cells := 0, slots := 0, locals := 0 } (PG w [.int x0, .int x1, .int x2] h) (QG w ((fI h) x)) 0 0 (AA w) := by
  refine m_entry (own := RX7) (f := (fI h)) hx (by decide) rfl (Nat.le_of_ble_eq_true rfl) (fun p e s m args below meth c C => ?_)
  show GO p l e _ s m args below meth c w 3 (fI h) (f_X7_hasPlaces h x0 x1 x2) 0 [(0, .int x0), (1, .int x1), (2, .int x2)] [] h
  unfold f_X7_hasPlaces
  refine g_iload_n (pc := 0) C 1 rfl dX7_hasPlaces_0 rfl ?_
  refine g_if_lt (pc := 1) (tgt := 20) C dX7_hasPlaces_1 (by decide) (fun hc1 => ?_) (fun hc1 => ?_)
  · refine g_iconst (pc := 20) (v := 0) C dX7_hasPlaces_20 kc_0 ?_
    exact g_zret C dX7_hasPlaces_21 rfl
  · refine g_iload_n (pc := 4) C 2 rfl dX7_hasPlaces_4 rfl ?_
    refine g_iload_n (pc := 5) C 0 rfl dX7_hasPlaces_5 rfl ?_
    refine g_icmp_gt (pc := 6) (tgt := 20) C dX7_hasPlaces_6 (by decide) (fun hc2 => ?_) (fun hc2 => ?_)
    · refine g_iconst (pc := 20) (v := 0) C dX7_hasPlaces_20 kc_0 ?_
      exact g_zret C dX7_hasPlaces_21 rfl
    · refine g_iload_n (pc := 9) C 1 rfl dX7_hasPlaces_9 rfl ?_
      refine g_iload_n (pc := 10) C 0 rfl dX7_hasPlaces_10 rfl ?_
      refine g_iload_n (pc := 11) C 2 rfl dX7_hasPlaces_11 rfl ?_
      refine g_isub (pc := 12) C dX7_hasPlaces_12 ?_
      refine g_icmp_gt (pc := 13) (tgt := 20) C dX7_hasPlaces_13 (by decide) (fun hc3 => ?_) (fun hc3 => ?_)
      · refine g_iconst (pc := 20) (v := 0) C dX7_hasPlaces_20 kc_0 ?_
        exact g_zret C dX7_hasPlaces_21 rfl
      · refine g_iconst (pc := 16) (v := 1) C dX7_hasPlaces_16 kc_1 ?_
        refine g_goto (pc := 17) (tgt := 21) C dX7_hasPlaces_17 (by decide) ?_
        exact g_zret C dX7_hasPlaces_21 rfl
/-- SnowHouse.copy(IIIII)I -/
def f_X7_copy_49    (h : TT) : Option (Int32 × TT) := (f_X7_found h (1 : Int32)).bind fun q8 => some (q8.1, q8.2)
set_option maxRecDepth 20000 in
theorem j_X7_copy_49 {p : Program} {l : Launch} {e : Env} {R : Room} {s : State} {m : MethodId} {args : Array Value} {below : List Frame} {meth : Method} {c : Code} {w : WK} (C : CX p R s m args meth c w RX7 cX7_copy 6 (some .int) 2 42)       (h : TT) : GO p l e R s m args below meth c w 6 fIT (f_X7_copy_49 h) 49 [(0, .ref (w.2.1 (0)))] [] h := by
  unfold f_X7_copy_49
  refine g_aload_n (pc := 49) C 0 rfl dX7_copy_49 rfl ?_
  refine g_iconst (pc := 50) (v := 1) C dX7_copy_50 kc_1 ?_
  refine g_callIT (pc := 51) (rest := []) (g_runV C mv_RX7_109 (fun x1 hx1 => m_X7_found hx1) so_RX7 rfl (by decide) rfl rfl (Nat.le_of_ble_eq_true rfl) dX7_copy_51) (fun q8 => ?_)
  exact g_iretT C dX7_copy_54
def f_X7_copy_86    (h : TT) : Option (Int32 × TT) := (f_X7_found h (2 : Int32)).bind fun q14 => some (q14.1, q14.2)
set_option maxRecDepth 20000 in
theorem j_X7_copy_86 {p : Program} {l : Launch} {e : Env} {R : Room} {s : State} {m : MethodId} {args : Array Value} {below : List Frame} {meth : Method} {c : Code} {w : WK} (C : CX p R s m args meth c w RX7 cX7_copy 6 (some .int) 2 42)       (h : TT) : GO p l e R s m args below meth c w 6 fIT (f_X7_copy_86 h) 86 [(0, .ref (w.2.1 (0)))] [] h := by
  unfold f_X7_copy_86
  refine g_aload_n (pc := 86) C 0 rfl dX7_copy_86 rfl ?_
  refine g_iconst (pc := 87) (v := 2) C dX7_copy_87 kc_2 ?_
  refine g_callIT (pc := 88) (rest := []) (g_runV C mv_RX7_109 (fun x1 hx1 => m_X7_found hx1) so_RX7 rfl (by decide) rfl rfl (Nat.le_of_ble_eq_true rfl) dX7_copy_88) (fun q14 => ?_)
  exact g_iretT C dX7_copy_91
def f_X7_copy (h : TT) (x1 : Int32) (x2 : Int32) (x3 : Int32) (x4 : Int32) (x5 : Int32) : Option (Int32 × TT) := (f_X7_isBelow h x1 (6 : Int32)).bind fun r1 => (if r1 = 0 then some ((-1 : Int32), h) else (f_X7_isBelow h x3 (6 : Int32)).bind fun r3 => (if r3 = 0 then some ((-1 : Int32), h) else (if 0 ≤ x5 then if inb x1 6 = true then (if (h.1 8 x1.toNatClampNeg) < 0 then f_X7_copy_49 h else if inb x3 6 = true then (if 0 ≤ (h.1 8 x3.toNatClampNeg) then if inb x1 6 = true then (f_X7_hasPlaces h (h.1 8 x1.toNatClampNeg) x2 x5).bind fun r12 => (if r12 = 0 then f_X7_copy_86 h else if inb x3 6 = true then (f_X7_hasPlaces h (h.1 8 x3.toNatClampNeg) x4 x5).bind fun r16 => (if r16 = 0 then f_X7_copy_86 h else if inb x1 6 = true then if inb x3 6 = true then if cpok x2 x4 x5 60 60 = true then nm (wrow h (2 + x3.toNatClampNeg) (va_cpy (h.1 (2 + x1.toNatClampNeg)) (h.1 (2 + x3.toNatClampNeg)) x2.toNatClampNeg x4.toNatClampNeg x5.toNatClampNeg)) fun h21 => some ((1 : Int32), h21) else none else none else none) else none) else none else f_X7_copy_49 h) else none) else none else (f_X7_found h (5 : Int32)).bind fun q22 => some (q22.1, q22.2))))
set_option maxRecDepth 20000 in
theorem m_X7_copy {l : Launch} {w : WK} {h : TT} {x1 : Int32} {x2 : Int32} {x3 : Int32} {x4 : Int32} {x5 : Int32} {x : (Int32 × TT)} (hx : f_X7_copy h x1 x2 x3 x4 x5 = some x)  : Met l yX7_copy (Cond.code yX7_copy cX7_copy 6 (some .int) :: wsG) { frames := 2, cells := 0, slots := 0, locals := 42 } (PG w [.ref (w.2.1 (0)), .int x1, .int x2, .int x3, .int x4, .int x5] h) (QG w (fIT x)) 0 0 (AA w) := by
  refine m_entry (own := RX7) (f := fIT) hx (by decide) rfl (Nat.le_of_ble_eq_true rfl) (fun p e s m args below meth c C => ?_)
  show GO p l e _ s m args below meth c w 6 fIT (f_X7_copy h x1 x2 x3 x4 x5) 0 [(0, .ref (w.2.1 (0))), (1, .int x1), (2, .int x2), (3, .int x3), (4, .int x4), (5, .int x5)] [] h
  unfold f_X7_copy
  refine g_iload_n (pc := 0) C 1 rfl dX7_copy_0 rfl ?_
  refine g_bipush (pc := 1) (v := 6) C dX7_copy_1 kb_6 ?_
  refine g_callI (pc := 3) (rest := []) (g_runS C ms_RX7_105 (fun x1 hx1 => m_X7_isBelow hx1) (by decide) rfl rfl (Nat.le_of_ble_eq_true rfl) dX7_copy_3) (fun r1 => ?_)
  refine g_if_eq (pc := 6) (tgt := 18) C dX7_copy_6 (by decide) (fun hc2 => ?_) (fun hc2 => ?_)
  · refine g_iconst (pc := 18) (v := -1) C dX7_copy_18 kc_m1 ?_
    exact g_iretT C dX7_copy_19
  · refine g_iload_n (pc := 9) C 3 rfl dX7_copy_9 rfl ?_
    refine g_bipush (pc := 10) (v := 6) C dX7_copy_10 kb_6 ?_
    refine g_callI (pc := 12) (rest := []) (g_runS C ms_RX7_105 (fun x1 hx1 => m_X7_isBelow hx1) (by decide) rfl rfl (Nat.le_of_ble_eq_true rfl) dX7_copy_12) (fun r3 => ?_)
    refine g_if_ne (pc := 15) (tgt := 20) C dX7_copy_15 (by decide) (fun hc4 => ?_) (fun hc4 => ?_)
    · refine g_iconst (pc := 18) (v := -1) C dX7_copy_18 kc_m1 ?_
      exact g_iretT C dX7_copy_19
    · refine g_iload (pc := 20) C 5 rfl dX7_copy_20 ?_
      refine g_if_ge (pc := 22) (tgt := 31) C dX7_copy_22 (by decide) (fun hc5 => ?_) (fun hc5 => ?_)
      · refine g_aload_n (pc := 31) C 0 rfl dX7_copy_31 rfl ?_
        refine g_get (pc := 32) C so_RX7 1 fl_RX7_14 (v := .ref (w.2.1 (8))) rfl dX7_copy_32 ?_
        refine g_iload_n (pc := 35) C 1 rfl dX7_copy_35 rfl ?_
        refine g_iald (pc := 36) C si_8 dX7_copy_36 (fun hb6 => ?_)
        refine g_if_lt (pc := 37) (tgt := 49) C dX7_copy_37 (by decide) (fun hc7 => ?_) (fun hc7 => ?_)
        · refine g_lv (lv' := [(0, .ref (w.2.1 (0)))]) [0] rfl ?_
          exact j_X7_copy_49 C h
        · refine g_aload_n (pc := 40) C 0 rfl dX7_copy_40 rfl ?_
          refine g_get (pc := 41) C so_RX7 1 fl_RX7_14 (v := .ref (w.2.1 (8))) rfl dX7_copy_41 ?_
          refine g_iload_n (pc := 44) C 3 rfl dX7_copy_44 rfl ?_
          refine g_iald (pc := 45) C si_8 dX7_copy_45 (fun hb9 => ?_)
          refine g_if_ge (pc := 46) (tgt := 55) C dX7_copy_46 (by decide) (fun hc10 => ?_) (fun hc10 => ?_)
          · refine g_aload_n (pc := 55) C 0 rfl dX7_copy_55 rfl ?_
            refine g_get (pc := 56) C so_RX7 1 fl_RX7_14 (v := .ref (w.2.1 (8))) rfl dX7_copy_56 ?_
            refine g_iload_n (pc := 59) C 1 rfl dX7_copy_59 rfl ?_
            refine g_iald (pc := 60) C si_8 dX7_copy_60 (fun hb11 => ?_)
            refine g_iload_n (pc := 61) C 2 rfl dX7_copy_61 rfl ?_
            refine g_iload (pc := 62) C 5 rfl dX7_copy_62 ?_
            refine g_callI (pc := 64) (rest := []) (g_runS C ms_RX7_116 (fun x1 hx1 => m_X7_hasPlaces hx1) (by decide) rfl rfl (Nat.le_of_ble_eq_true rfl) dX7_copy_64) (fun r12 => ?_)
            refine g_if_eq (pc := 67) (tgt := 86) C dX7_copy_67 (by decide) (fun hc13 => ?_) (fun hc13 => ?_)
            · refine g_lv (lv' := [(0, .ref (w.2.1 (0)))]) [0] rfl ?_
              exact j_X7_copy_86 C h
            · refine g_aload_n (pc := 70) C 0 rfl dX7_copy_70 rfl ?_
              refine g_get (pc := 71) C so_RX7 1 fl_RX7_14 (v := .ref (w.2.1 (8))) rfl dX7_copy_71 ?_
              refine g_iload_n (pc := 74) C 3 rfl dX7_copy_74 rfl ?_
              refine g_iald (pc := 75) C si_8 dX7_copy_75 (fun hb15 => ?_)
              refine g_iload (pc := 76) C 4 rfl dX7_copy_76 ?_
              refine g_iload (pc := 78) C 5 rfl dX7_copy_78 ?_
              refine g_callI (pc := 80) (rest := []) (g_runS C ms_RX7_116 (fun x1 hx1 => m_X7_hasPlaces hx1) (by decide) rfl rfl (Nat.le_of_ble_eq_true rfl) dX7_copy_80) (fun r16 => ?_)
              refine g_if_ne (pc := 83) (tgt := 92) C dX7_copy_83 (by decide) (fun hc17 => ?_) (fun hc17 => ?_)
              · refine g_lv (lv' := [(0, .ref (w.2.1 (0)))]) [0] rfl ?_
                exact j_X7_copy_86 C h
              · refine g_aload_n (pc := 92) C 0 rfl dX7_copy_92 rfl ?_
                refine g_get (pc := 93) C so_RX7 0 fl_RX7_11 (v := .ref (w.2.1 (1))) rfl dX7_copy_93 ?_
                refine g_iload_n (pc := 96) C 1 rfl dX7_copy_96 rfl ?_
                refine g_aald (pc := 97) (cA := 0) C sr_rows rfl rfl dX7_copy_97 (fun hb18 => ?_)
                refine g_iload_n (pc := 98) C 2 rfl dX7_copy_98 rfl ?_
                refine g_aload_n (pc := 99) C 0 rfl dX7_copy_99 rfl ?_
                refine g_get (pc := 100) C so_RX7 0 fl_RX7_11 (v := .ref (w.2.1 (1))) rfl dX7_copy_100 ?_
                refine g_iload_n (pc := 103) C 3 rfl dX7_copy_103 rfl ?_
                refine g_aald (pc := 104) (cA := 0) C sr_rows rfl rfl dX7_copy_104 (fun hb19 => ?_)
                refine g_iload (pc := 105) C 4 rfl dX7_copy_105 ?_
                refine g_iload (pc := 107) C 5 rfl dX7_copy_107 ?_
                refine g_copy (pc := 109) C (siRow hb18) (siRow hb19) wm_RX7_120 wna_copy wst_copy wini_sys (by decide) (by decide) (Nat.le_of_ble_eq_true rfl) dX7_copy_109 (fun hb20 => ?_)
                refine g_nm (fun h21 => ?_)
                refine g_iconst (pc := 112) (v := 1) C dX7_copy_112 kc_1 ?_
                exact g_iretT C dX7_copy_113
          · refine g_lv (lv' := [(0, .ref (w.2.1 (0)))]) [0] rfl ?_
            exact j_X7_copy_49 C h
      · refine g_aload_n (pc := 25) C 0 rfl dX7_copy_25 rfl ?_
        refine g_iconst (pc := 26) (v := 5) C dX7_copy_26 kc_5 ?_
        refine g_callIT (pc := 27) (rest := []) (g_runV C mv_RX7_109 (fun x1 hx1 => m_X7_found hx1) so_RX7 rfl (by decide) rfl rfl (Nat.le_of_ble_eq_true rfl) dX7_copy_27) (fun q22 => ?_)
        exact g_iretT C dX7_copy_30
/-- SnowHouse.mean(I)I -/
def f_X7_mean_43   : Nat → Int32 → Int32 → Int64 → Int32 → TT → Option (Int32 × TT)
  | 0, _, _, _, _, _ => none
  | n + 1, x1, x2, x3, x5, h => (if x2 ≤ x5 then if x2.toInt64 = 0 then none else (f_X7_tell h ((x3 / x2.toInt64).toInt32)).bind fun q10 => some (q10.1, q10.2) else if inb x1 6 = true then if inb x5 60 = true then nm (x3 + ((h.1 (2 + x1.toNatClampNeg) x5.toNatClampNeg).toInt64)) fun y13 => f_X7_mean_43 n x1 x2 y13 (x5 + (1 : Int32)) h else none else none)
set_option maxRecDepth 20000 in
theorem j_X7_mean_43 {p : Program} {l : Launch} {e : Env} {R : Room} {s : State} {m : MethodId} {args : Array Value} {below : List Frame} {meth : Method} {c : Code} {w : WK} (C : CX p R s m args meth c w RX7 cX7_mean 6 (some .int) 2 42)     : ∀ (n : Nat) (x1 : Int32) (x2 : Int32) (x3 : Int64) (x5 : Int32) (h : TT), GO p l e R s m args below meth c w 6 fIT (f_X7_mean_43 n x1 x2 x3 x5 h) 43 [(0, .ref (w.2.1 (0))), (1, .int x1), (2, .int x2), (3, .long x3), (5, .int x5)] [] h := by
  intro n
  induction n with
  | zero =>
    intro x1 x2 x3 x5 h
    exact g_none
  | succ n ih =>
    intro x1 x2 x3 x5 h
    rw [f_X7_mean_43]
    refine g_iload (pc := 43) C 4 rfl dX7_mean_43 ?_
    refine g_iload_n (pc := 45) C 2 rfl dX7_mean_45 rfl ?_
    refine g_icmp_ge (pc := 46) (tgt := 68) C dX7_mean_46 (by decide) (fun hc8 => ?_) (fun hc8 => ?_)
    · refine g_aload_n (pc := 68) C 0 rfl dX7_mean_68 rfl ?_
      refine g_lload_n (pc := 69) C 3 rfl dX7_mean_69 rfl ?_
      refine g_iload_n (pc := 70) C 2 rfl dX7_mean_70 rfl ?_
      refine g_i2l (pc := 71) C dX7_mean_71 ?_
      refine g_guardp (fun hz9 => ?_)
      refine g_ldiv (pc := 72) C dX7_mean_72 hz9 ?_
      refine g_l2i (pc := 73) C dX7_mean_73 ?_
      refine g_callIT (pc := 74) (rest := []) (g_runV C mv_RX7_113 (fun x1 hx1 => m_X7_tell hx1) so_RX7 rfl (by decide) rfl rfl (Nat.le_of_ble_eq_true rfl) dX7_mean_74) (fun q10 => ?_)
      exact g_iretT C dX7_mean_77
    · refine g_lload_n (pc := 49) C 3 rfl dX7_mean_49 rfl ?_
      refine g_aload_n (pc := 50) C 0 rfl dX7_mean_50 rfl ?_
      refine g_get (pc := 51) C so_RX7 0 fl_RX7_11 (v := .ref (w.2.1 (1))) rfl dX7_mean_51 ?_
      refine g_iload_n (pc := 54) C 1 rfl dX7_mean_54 rfl ?_
      refine g_aald (pc := 55) (cA := 0) C sr_rows rfl rfl dX7_mean_55 (fun hb11 => ?_)
      refine g_iload (pc := 56) C 4 rfl dX7_mean_56 ?_
      refine g_iald (pc := 58) C (siRow hb11) dX7_mean_58 (fun hb12 => ?_)
      refine g_i2l (pc := 59) C dX7_mean_59 ?_
      refine g_ladd (pc := 60) C dX7_mean_60 ?_
      refine g_nmj (fun y13 => ?_)
      refine g_lstore_n (pc := 61) C dX7_mean_61 rfl (by decide) (lv' := [(3, .long y13), (0, .ref (w.2.1 (0))), (1, .int x1), (2, .int x2), (5, .int x5)]) rfl ?_
      refine g_iinc (pc := 62) C 4 rfl dX7_mean_62 (ki_1 _) (by decide) (lv' := [(5, .int (x5 + (1 : Int32))), (3, .long y13), (0, .ref (w.2.1 (0))), (1, .int x1), (2, .int x2)]) rfl ?_
      refine g_goto (pc := 65) (tgt := 43) C dX7_mean_65 (by decide) ?_
      refine g_lv (lv' := [(0, .ref (w.2.1 (0))), (1, .int x1), (2, .int x2), (3, .long y13), (5, .int (x5 + (1 : Int32)))]) [2, 3, 4, 1, 0] rfl ?_
      exact ih x1 x2 y13 (x5 + (1 : Int32)) h
def f_X7_mean (h : TT) (x1 : Int32) : Option (Int32 × TT) := (f_X7_isBelow h x1 (6 : Int32)).bind fun r1 => (if r1 = 0 then some ((-1 : Int32), h) else if inb x1 6 = true then nm (h.1 8 x1.toNatClampNeg) fun y4 => (if 0 ≤ y4 then (if y4 = 0 then (f_X7_found h (4 : Int32)).bind fun q7 => some (q7.1, q7.2) else f_X7_mean_43 KF x1 y4 (0 : Int64) (0 : Int32) h) else (f_X7_found h (1 : Int32)).bind fun q14 => some (q14.1, q14.2)) else none)
set_option maxRecDepth 20000 in
theorem m_X7_mean {l : Launch} {w : WK} {h : TT} {x1 : Int32} {x : (Int32 × TT)} (hx : f_X7_mean h x1 = some x)  : Met l yX7_mean (Cond.code yX7_mean cX7_mean 6 (some .int) :: wsG) { frames := 2, cells := 0, slots := 0, locals := 42 } (PG w [.ref (w.2.1 (0)), .int x1] h) (QG w (fIT x)) 0 0 (AA w) := by
  refine m_entry (own := RX7) (f := fIT) hx (by decide) rfl (Nat.le_of_ble_eq_true rfl) (fun p e s m args below meth c C => ?_)
  show GO p l e _ s m args below meth c w 6 fIT (f_X7_mean h x1) 0 [(0, .ref (w.2.1 (0))), (1, .int x1)] [] h
  unfold f_X7_mean
  refine g_iload_n (pc := 0) C 1 rfl dX7_mean_0 rfl ?_
  refine g_bipush (pc := 1) (v := 6) C dX7_mean_1 kb_6 ?_
  refine g_callI (pc := 3) (rest := []) (g_runS C ms_RX7_105 (fun x1 hx1 => m_X7_isBelow hx1) (by decide) rfl rfl (Nat.le_of_ble_eq_true rfl) dX7_mean_3) (fun r1 => ?_)
  refine g_if_ne (pc := 6) (tgt := 11) C dX7_mean_6 (by decide) (fun hc2 => ?_) (fun hc2 => ?_)
  · refine g_iconst (pc := 9) (v := -1) C dX7_mean_9 kc_m1 ?_
    exact g_iretT C dX7_mean_10
  · refine g_aload_n (pc := 11) C 0 rfl dX7_mean_11 rfl ?_
    refine g_get (pc := 12) C so_RX7 1 fl_RX7_14 (v := .ref (w.2.1 (8))) rfl dX7_mean_12 ?_
    refine g_iload_n (pc := 15) C 1 rfl dX7_mean_15 rfl ?_
    refine g_iald (pc := 16) C si_8 dX7_mean_16 (fun hb3 => ?_)
    refine g_nmi (fun y4 => ?_)
    refine g_istore_n (pc := 17) C dX7_mean_17 rfl (by decide) (lv' := [(2, .int y4), (0, .ref (w.2.1 (0))), (1, .int x1)]) rfl ?_
    refine g_iload_n (pc := 18) C 0 rfl dX7_mean_18 rfl ?_
    refine g_if_ge (pc := 19) (tgt := 28) C dX7_mean_19 (by decide) (fun hc5 => ?_) (fun hc5 => ?_)
    · refine g_iload_n (pc := 28) C 0 rfl dX7_mean_28 rfl ?_
      refine g_if_ne (pc := 29) (tgt := 38) C dX7_mean_29 (by decide) (fun hc6 => ?_) (fun hc6 => ?_)
      · refine g_aload_n (pc := 32) C 1 rfl dX7_mean_32 rfl ?_
        refine g_iconst (pc := 33) (v := 4) C dX7_mean_33 kc_4 ?_
        refine g_callIT (pc := 34) (rest := []) (g_runV C mv_RX7_109 (fun x1 hx1 => m_X7_found hx1) so_RX7 rfl (by decide) rfl rfl (Nat.le_of_ble_eq_true rfl) dX7_mean_34) (fun q7 => ?_)
        exact g_iretT C dX7_mean_37
      · refine g_lconst (pc := 38) (v := 0) C dX7_mean_38 (by decide) ?_
        refine g_lstore_n (pc := 39) C dX7_mean_39 rfl (by decide) (lv' := [(3, .long (0 : Int64)), (2, .int y4), (0, .ref (w.2.1 (0))), (1, .int x1)]) rfl ?_
        refine g_iconst (pc := 40) (v := 0) C dX7_mean_40 kc_0 ?_
        refine g_istore (pc := 41) C dX7_mean_41 (by decide) (lv' := [(5, .int (0 : Int32)), (3, .long (0 : Int64)), (2, .int y4), (0, .ref (w.2.1 (0))), (1, .int x1)]) rfl ?_
        refine g_lv (lv' := [(0, .ref (w.2.1 (0))), (1, .int x1), (2, .int y4), (3, .long (0 : Int64)), (5, .int (0 : Int32))]) [3, 4, 2, 1, 0] rfl ?_
        exact j_X7_mean_43 C KF x1 y4 (0 : Int64) (0 : Int32) h
    · refine g_aload_n (pc := 22) C 1 rfl dX7_mean_22 rfl ?_
      refine g_iconst (pc := 23) (v := 1) C dX7_mean_23 kc_1 ?_
      refine g_callIT (pc := 24) (rest := []) (g_runV C mv_RX7_109 (fun x1 hx1 => m_X7_found hx1) so_RX7 rfl (by decide) rfl rfl (Nat.le_of_ble_eq_true rfl) dX7_mean_24) (fun q14 => ?_)
      exact g_iretT C dX7_mean_27
/-- java/util/Arrays.fill([BB)V -/
def f_J7_fill_031fb_5 (o0 n0 : Nat)  : Nat → Int32 → Int32 → Int32 → TT → Option TT
  | 0, _, _, _, _ => none
  | n + 1, x1, x2, x3, h => (if x3 ≤ x2 then some h else if inb x2 n0 = true then nm (wr h o0 x2.toNatClampNeg (vp_nar .byte x1)) fun h4 => f_J7_fill_031fb_5 o0 n0 n x1 (x2 + (1 : Int32)) x3 h4 else none)
set_option maxRecDepth 20000 in
theorem j_J7_fill_031fb_5 {p : Program} {l : Launch} {e : Env} {R : Room} {s : State} {m : MethodId} {args : Array Value} {below : List Frame} {meth : Method} {c : Code} {w : WK} (C : CX p R s m args meth c w RJ7 cJ7_fill_031fb 4 none 0 0)  {o0 n0 : Nat} (ho0 : SB w o0 n0)  : ∀ (n : Nat) (x1 : Int32) (x2 : Int32) (x3 : Int32) (h : TT), GO p l e R s m args below meth c w 4 fV (f_J7_fill_031fb_5 o0 n0 n x1 x2 x3 h) 5 [(0, .ref (w.2.1 (o0))), (1, .int x1), (2, .int x2), (3, .int x3)] [] h := by
  intro n
  induction n with
  | zero =>
    intro x1 x2 x3 h
    exact g_none
  | succ n ih =>
    intro x1 x2 x3 h
    rw [f_J7_fill_031fb_5]
    refine g_iload_n (pc := 5) C 2 rfl dJ7_fill_031fb_5 rfl ?_
    refine g_iload_n (pc := 6) C 3 rfl dJ7_fill_031fb_6 rfl ?_
    refine g_icmp_ge (pc := 7) (tgt := 20) C dJ7_fill_031fb_7 (by decide) (fun hc2 => ?_) (fun hc2 => ?_)
    · exact g_vret C dJ7_fill_031fb_20
    · refine g_aload_n (pc := 10) C 0 rfl dJ7_fill_031fb_10 rfl ?_
      refine g_iload_n (pc := 11) C 2 rfl dJ7_fill_031fb_11 rfl ?_
      refine g_iload_n (pc := 12) C 1 rfl dJ7_fill_031fb_12 rfl ?_
      refine g_bast (pc := 13) C ho0 dJ7_fill_031fb_13 (fun hb3 => ?_)
      refine g_nm (fun h4 => ?_)
      refine g_iinc (pc := 14) C 2 rfl dJ7_fill_031fb_14 (ki_1 _) (by decide) (lv' := [(2, .int (x2 + (1 : Int32))), (0, .ref (w.2.1 (o0))), (1, .int x1), (3, .int x3)]) rfl ?_
      refine g_goto (pc := 17) (tgt := 5) C dJ7_fill_031fb_17 (by decide) ?_
      refine g_lv (lv' := [(0, .ref (w.2.1 (o0))), (1, .int x1), (2, .int (x2 + (1 : Int32))), (3, .int x3)]) [1, 2, 0, 3] rfl ?_
      exact ih x1 (x2 + (1 : Int32)) x3 h4
def f_J7_fill_031fb (h : TT) (o0 n0 : Nat) (x1 : Int32) : Option TT := nm (nI n0) fun y1 => f_J7_fill_031fb_5 o0 n0 KF x1 (0 : Int32) y1 h
set_option maxRecDepth 20000 in
theorem m_J7_fill_031fb {l : Launch} {w : WK} {h : TT} {o0 n0 : Nat} {x1 : Int32} {x : TT} (hx : f_J7_fill_031fb h o0 n0 x1 = some x) (ho0 : SB w o0 n0) : Met l yJ7_fill_031fb (Cond.code yJ7_fill_031fb cJ7_fill_031fb 4 none :: wsG) { frames := 0, cells := 0, slots := 0, locals := 0 } (PG w [.ref (w.2.1 (o0)), .int x1] h) (QG w (fV x)) 0 0 (AA w) := by
  refine m_entry (own := RJ7) (f := fV) hx (by decide) rfl (Nat.le_of_ble_eq_true rfl) (fun p e s m args below meth c C => ?_)
  show GO p l e _ s m args below meth c w 4 fV (f_J7_fill_031fb h o0 n0 x1) 0 [(0, .ref (w.2.1 (o0))), (1, .int x1)] [] h
  unfold f_J7_fill_031fb
  refine g_iconst (pc := 0) (v := 0) C dJ7_fill_031fb_0 kc_0 ?_
  refine g_istore_n (pc := 1) C dJ7_fill_031fb_1 rfl (by decide) (lv' := [(2, .int (0 : Int32)), (0, .ref (w.2.1 (o0))), (1, .int x1)]) rfl ?_
  refine g_aload_n (pc := 2) C 1 rfl dJ7_fill_031fb_2 rfl ?_
  refine g_balen (pc := 3) C ho0 dJ7_fill_031fb_3 ?_
  refine g_nmi (fun y1 => ?_)
  refine g_istore_n (pc := 4) C dJ7_fill_031fb_4 rfl (by decide) (lv' := [(3, .int y1), (2, .int (0 : Int32)), (0, .ref (w.2.1 (o0))), (1, .int x1)]) rfl ?_
  refine g_lv (lv' := [(0, .ref (w.2.1 (o0))), (1, .int x1), (2, .int (0 : Int32)), (3, .int y1)]) [2, 3, 1, 0] rfl ?_
  exact j_J7_fill_031fb_5 C ho0 KF x1 (0 : Int32) y1 h
/-- SnowHouse.text(II)I -/
def f_X7_text (h : TT) (x1 : Int32) (x2 : Int32) : Option (Int32 × TT) := (f_X7_isBelow h x1 (4 : Int32)).bind fun r1 => (if r1 = 0 then some ((-1 : Int32), h) else (if x2 ≤ (80 : Int32) then (if 0 ≤ x2 then if inb x1 4 = true then (f_J7_fill_031fb h (10 + x1.toNatClampNeg) 80 (32 : Int32)).bind fun h6 => if inb x1 4 = true then nm (wr h6 14 x1.toNatClampNeg x2) fun h8 => some (x2, h8) else none else none else (f_X7_found h (5 : Int32)).bind fun q9 => some (q9.1, q9.2)) else some ((-1 : Int32), h)))
set_option maxRecDepth 20000 in
theorem m_X7_text {l : Launch} {w : WK} {h : TT} {x1 : Int32} {x2 : Int32} {x : (Int32 × TT)} (hx : f_X7_text h x1 x2 = some x)  : Met l yX7_text (Cond.code yX7_text cX7_text 3 (some .int) :: wsG) { frames := 2, cells := 0, slots := 0, locals := 42 } (PG w [.ref (w.2.1 (0)), .int x1, .int x2] h) (QG w (fIT x)) 0 0 (AA w) := by
  refine m_entry (own := RX7) (f := fIT) hx (by decide) rfl (Nat.le_of_ble_eq_true rfl) (fun p e s m args below meth c C => ?_)
  show GO p l e _ s m args below meth c w 3 fIT (f_X7_text h x1 x2) 0 [(0, .ref (w.2.1 (0))), (1, .int x1), (2, .int x2)] [] h
  unfold f_X7_text
  refine g_iload_n (pc := 0) C 1 rfl dX7_text_0 rfl ?_
  refine g_iconst (pc := 1) (v := 4) C dX7_text_1 kc_4 ?_
  refine g_callI (pc := 2) (rest := []) (g_runS C ms_RX7_105 (fun x1 hx1 => m_X7_isBelow hx1) (by decide) rfl rfl (Nat.le_of_ble_eq_true rfl) dX7_text_2) (fun r1 => ?_)
  refine g_if_eq (pc := 5) (tgt := 14) C dX7_text_5 (by decide) (fun hc2 => ?_) (fun hc2 => ?_)
  · refine g_iconst (pc := 14) (v := -1) C dX7_text_14 kc_m1 ?_
    exact g_iretT C dX7_text_15
  · refine g_iload_n (pc := 8) C 2 rfl dX7_text_8 rfl ?_
    refine g_bipush (pc := 9) (v := 80) C dX7_text_9 kb_80 ?_
    refine g_icmp_le (pc := 11) (tgt := 16) C dX7_text_11 (by decide) (fun hc3 => ?_) (fun hc3 => ?_)
    · refine g_iload_n (pc := 16) C 2 rfl dX7_text_16 rfl ?_
      refine g_if_ge (pc := 17) (tgt := 26) C dX7_text_17 (by decide) (fun hc4 => ?_) (fun hc4 => ?_)
      · refine g_aload_n (pc := 26) C 0 rfl dX7_text_26 rfl ?_
        refine g_get (pc := 27) C so_RX7 2 fl_RX7_26 (v := .ref (w.2.1 (9))) rfl dX7_text_27 ?_
        refine g_iload_n (pc := 30) C 1 rfl dX7_text_30 rfl ?_
        refine g_aald (pc := 31) (cA := 0) C sr_texts rfl rfl dX7_text_31 (fun hb5 => ?_)
        refine g_bipush (pc := 32) (v := 32) C dX7_text_32 kb_32 ?_
        refine g_callV (pc := 34) (rest := []) (g_runS C ms_RX7_126 (fun x1 hx1 => m_J7_fill_031fb hx1 (sbText hb5)) (by decide) rfl rfl (Nat.le_of_ble_eq_true rfl) dX7_text_34) (fun h6 => ?_)
        refine g_aload_n (pc := 37) C 0 rfl dX7_text_37 rfl ?_
        refine g_get (pc := 38) C so_RX7 3 fl_RX7_29 (v := .ref (w.2.1 (14))) rfl dX7_text_38 ?_
        refine g_iload_n (pc := 41) C 1 rfl dX7_text_41 rfl ?_
        refine g_iload_n (pc := 42) C 2 rfl dX7_text_42 rfl ?_
        refine g_iast (pc := 43) C si_14 dX7_text_43 (fun hb7 => ?_)
        refine g_nm (fun h8 => ?_)
        refine g_iload_n (pc := 44) C 2 rfl dX7_text_44 rfl ?_
        exact g_iretT C dX7_text_45
      · refine g_aload_n (pc := 20) C 0 rfl dX7_text_20 rfl ?_
        refine g_iconst (pc := 21) (v := 5) C dX7_text_21 kc_5 ?_
        refine g_callIT (pc := 22) (rest := []) (g_runV C mv_RX7_109 (fun x1 hx1 => m_X7_found hx1) so_RX7 rfl (by decide) rfl rfl (Nat.le_of_ble_eq_true rfl) dX7_text_22) (fun q9 => ?_)
        exact g_iretT C dX7_text_25
    · refine g_iconst (pc := 14) (v := -1) C dX7_text_14 kc_m1 ?_
      exact g_iretT C dX7_text_15
/-- SnowHouse.put(III)I -/
def f_X7_put (h : TT) (x1 : Int32) (x2 : Int32) (x3 : Int32) : Option (Int32 × TT) := (f_X7_isBelow h x1 (4 : Int32)).bind fun r1 => (if r1 = 0 then some ((-1 : Int32), h) else if inb x1 4 = true then (if 0 ≤ (h.1 14 x1.toNatClampNeg) then if inb x1 4 = true then (f_X7_isBelow h x2 (h.1 14 x1.toNatClampNeg)).bind fun r6 => (if r6 = 0 then (f_X7_found h (2 : Int32)).bind fun q8 => some (q8.1, q8.2) else if inb x1 4 = true then if inb x2 80 = true then nm (h.1 (10 + x1.toNatClampNeg) x2.toNatClampNeg) fun y11 => if inb x1 4 = true then if inb x2 80 = true then nm (wr h (10 + x1.toNatClampNeg) x2.toNatClampNeg (vp_nar .byte x3.toInt8.toInt32)) fun h14 => some (y11 + (1000 : Int32), h14) else none else none else none else none) else none else (f_X7_found h (1 : Int32)).bind fun q15 => some (q15.1, q15.2)) else none)
set_option maxRecDepth 20000 in
theorem m_X7_put {l : Launch} {w : WK} {h : TT} {x1 : Int32} {x2 : Int32} {x3 : Int32} {x : (Int32 × TT)} (hx : f_X7_put h x1 x2 x3 = some x)  : Met l yX7_put (Cond.code yX7_put cX7_put 5 (some .int) :: wsG) { frames := 2, cells := 0, slots := 0, locals := 42 } (PG w [.ref (w.2.1 (0)), .int x1, .int x2, .int x3] h) (QG w (fIT x)) 0 0 (AA w) := by
  refine m_entry (own := RX7) (f := fIT) hx (by decide) rfl (Nat.le_of_ble_eq_true rfl) (fun p e s m args below meth c C => ?_)
  show GO p l e _ s m args below meth c w 5 fIT (f_X7_put h x1 x2 x3) 0 [(0, .ref (w.2.1 (0))), (1, .int x1), (2, .int x2), (3, .int x3)] [] h
  unfold f_X7_put
  refine g_iload_n (pc := 0) C 1 rfl dX7_put_0 rfl ?_
  refine g_iconst (pc := 1) (v := 4) C dX7_put_1 kc_4 ?_
  refine g_callI (pc := 2) (rest := []) (g_runS C ms_RX7_105 (fun x1 hx1 => m_X7_isBelow hx1) (by decide) rfl rfl (Nat.le_of_ble_eq_true rfl) dX7_put_2) (fun r1 => ?_)
  refine g_if_ne (pc := 5) (tgt := 10) C dX7_put_5 (by decide) (fun hc2 => ?_) (fun hc2 => ?_)
  · refine g_iconst (pc := 8) (v := -1) C dX7_put_8 kc_m1 ?_
    exact g_iretT C dX7_put_9
  · refine g_aload_n (pc := 10) C 0 rfl dX7_put_10 rfl ?_
    refine g_get (pc := 11) C so_RX7 3 fl_RX7_29 (v := .ref (w.2.1 (14))) rfl dX7_put_11 ?_
    refine g_iload_n (pc := 14) C 1 rfl dX7_put_14 rfl ?_
    refine g_iald (pc := 15) C si_14 dX7_put_15 (fun hb3 => ?_)
    refine g_if_ge (pc := 16) (tgt := 25) C dX7_put_16 (by decide) (fun hc4 => ?_) (fun hc4 => ?_)
    · refine g_iload_n (pc := 25) C 2 rfl dX7_put_25 rfl ?_
      refine g_aload_n (pc := 26) C 0 rfl dX7_put_26 rfl ?_
      refine g_get (pc := 27) C so_RX7 3 fl_RX7_29 (v := .ref (w.2.1 (14))) rfl dX7_put_27 ?_
      refine g_iload_n (pc := 30) C 1 rfl dX7_put_30 rfl ?_
      refine g_iald (pc := 31) C si_14 dX7_put_31 (fun hb5 => ?_)
      refine g_callI (pc := 32) (rest := []) (g_runS C ms_RX7_105 (fun x1 hx1 => m_X7_isBelow hx1) (by decide) rfl rfl (Nat.le_of_ble_eq_true rfl) dX7_put_32) (fun r6 => ?_)
      refine g_if_ne (pc := 35) (tgt := 44) C dX7_put_35 (by decide) (fun hc7 => ?_) (fun hc7 => ?_)
      · refine g_aload_n (pc := 38) C 0 rfl dX7_put_38 rfl ?_
        refine g_iconst (pc := 39) (v := 2) C dX7_put_39 kc_2 ?_
        refine g_callIT (pc := 40) (rest := []) (g_runV C mv_RX7_109 (fun x1 hx1 => m_X7_found hx1) so_RX7 rfl (by decide) rfl rfl (Nat.le_of_ble_eq_true rfl) dX7_put_40) (fun q8 => ?_)
        exact g_iretT C dX7_put_43
      · refine g_aload_n (pc := 44) C 0 rfl dX7_put_44 rfl ?_
        refine g_get (pc := 45) C so_RX7 2 fl_RX7_26 (v := .ref (w.2.1 (9))) rfl dX7_put_45 ?_
        refine g_iload_n (pc := 48) C 1 rfl dX7_put_48 rfl ?_
        refine g_aald (pc := 49) (cA := 0) C sr_texts rfl rfl dX7_put_49 (fun hb9 => ?_)
        refine g_iload_n (pc := 50) C 2 rfl dX7_put_50 rfl ?_
        refine g_bald (pc := 51) C (sbText hb9) dX7_put_51 (fun hb10 => ?_)
        refine g_nmi (fun y11 => ?_)
        refine g_istore (pc := 52) C dX7_put_52 (by decide) (lv' := [(4, .int y11), (0, .ref (w.2.1 (0))), (1, .int x1), (2, .int x2), (3, .int x3)]) rfl ?_
        refine g_aload_n (pc := 54) C 1 rfl dX7_put_54 rfl ?_
        refine g_get (pc := 55) C so_RX7 2 fl_RX7_26 (v := .ref (w.2.1 (9))) rfl dX7_put_55 ?_
        refine g_iload_n (pc := 58) C 2 rfl dX7_put_58 rfl ?_
        refine g_aald (pc := 59) (cA := 0) C sr_texts rfl rfl dX7_put_59 (fun hb12 => ?_)
        refine g_iload_n (pc := 60) C 3 rfl dX7_put_60 rfl ?_
        refine g_iload_n (pc := 61) C 4 rfl dX7_put_61 rfl ?_
        refine g_i2b (pc := 62) C dX7_put_62 ?_
        refine g_bast (pc := 63) C (sbText hb12) dX7_put_63 (fun hb13 => ?_)
        refine g_nm (fun h14 => ?_)
        refine g_iload (pc := 64) C 0 rfl dX7_put_64 ?_
        refine g_sipush (pc := 66) (v := 1000) C dX7_put_66 ks_1000 ?_
        refine g_iadd (pc := 69) C dX7_put_69 ?_
        exact g_iretT C dX7_put_70
    · refine g_aload_n (pc := 19) C 0 rfl dX7_put_19 rfl ?_
      refine g_iconst (pc := 20) (v := 1) C dX7_put_20 kc_1 ?_
      refine g_callIT (pc := 21) (rest := []) (g_runV C mv_RX7_109 (fun x1 hx1 => m_X7_found hx1) so_RX7 rfl (by decide) rfl rfl (Nat.le_of_ble_eq_true rfl) dX7_put_21) (fun q15 => ?_)
      exact g_iretT C dX7_put_24
/-- SnowHouse$Reader.open([BI)V -/
def f_X4_open (h : TT) (o1 n1 : Nat) (x2 : Int32) : Option TT := nm (wr h 127 3 (nI o1)) fun h1 => nm (wr h1 127 4 (imin x2 (nI n1))) fun h2 => nm (wr h2 127 5 (0 : Int32)) fun h3 => nm (wr h3 127 2 (0 : Int32)) fun h4 => some h4
set_option maxRecDepth 20000 in
theorem m_X4_open {l : Launch} {w : WK} {h : TT} {o1 n1 : Nat} {x2 : Int32} {x : TT} (hx : f_X4_open h o1 n1 x2 = some x) (ho1 : SB w o1 n1) : Met l yX4_open (Cond.code yX4_open cX4_open 3 none :: wsG) { frames := 1, cells := 0, slots := 0, locals := 21 } (PG w [.ref (w.2.1 (127)), .ref (w.2.1 (o1)), .int x2] h) (QG w (fV x)) 0 0 (AA w) := by
  refine m_entry (own := RX4) (f := fV) hx (by decide) rfl (Nat.le_of_ble_eq_true rfl) (fun p e s m args below meth c C => ?_)
  show GO p l e _ s m args below meth c w 3 fV (f_X4_open h o1 n1 x2) 0 [(0, .ref (w.2.1 (127))), (1, .ref (w.2.1 (o1))), (2, .int x2)] [] h
  unfold f_X4_open
  refine g_aload_n (pc := 0) C 0 rfl dX4_open_0 rfl ?_
  refine g_aload_n (pc := 1) C 1 rfl dX4_open_1 rfl ?_
  refine g_putR (pc := 2) C so_RX4 3 fp_RX4_25 (se_signs ho1) rfl rfl (sl_RX4_3) dX4_open_2 ?_
  refine g_nm (fun h1 => ?_)
  refine g_aload_n (pc := 5) C 0 rfl dX4_open_5 rfl ?_
  refine g_iload_n (pc := 6) C 2 rfl dX4_open_6 rfl ?_
  refine g_aload_n (pc := 7) C 1 rfl dX4_open_7 rfl ?_
  refine g_balen (pc := 8) C ho1 dX4_open_8 ?_
  refine g_min (pc := 9) C wm_RX4_80 wst_min wini_math wco_min (by decide) (by decide) (Nat.le_of_ble_eq_true rfl) dX4_open_9 ?_
  refine g_putI (pc := 12) C so_RX4 4 fp_RX4_77 (se_RX4_4 _) rfl rfl (sl_RX4_4) dX4_open_12 ?_
  refine g_nm (fun h2 => ?_)
  refine g_aload_n (pc := 15) C 0 rfl dX4_open_15 rfl ?_
  refine g_iconst (pc := 16) (v := 0) C dX4_open_16 kc_0 ?_
  refine g_putI (pc := 17) C so_RX4 5 fp_RX4_57 (se_RX4_5 _) rfl rfl (sl_RX4_5) dX4_open_17 ?_
  refine g_nm (fun h3 => ?_)
  refine g_aload_n (pc := 20) C 0 rfl dX4_open_20 rfl ?_
  refine g_iconst (pc := 21) (v := 0) C dX4_open_21 kc_0 ?_
  refine g_putI (pc := 22) C so_RX4 2 fp_RX4_86 (se_RX4_2 _) rfl rfl (sl_RX4_2) dX4_open_22 ?_
  refine g_nm (fun h4 => ?_)
  exact g_vret C dX4_open_25
/-- SnowHouse$Plan.clear()V -/
def f_X3_clear (h : TT) (o0 : Nat) : Option TT := nm (wr h o0 0 (1 : Int32)) fun h1 => nm (wr h1 o0 1 (0 : Int32)) fun h2 => nm (wr h2 o0 2 (0 : Int32)) fun h3 => nm (wr h3 o0 3 (2 : Int32)) fun h4 => some h4
set_option maxRecDepth 20000 in
theorem m_X3_clear {l : Launch} {w : WK} {h : TT} {o0 : Nat} {x : TT} (hx : f_X3_clear h o0 = some x) (ho0 : IsP o0) : Met l yX3_clear (Cond.code yX3_clear cX3_clear 1 none :: wsG) { frames := 0, cells := 0, slots := 0, locals := 0 } (PG w [.ref (w.2.1 (o0))] h) (QG w (fV x)) 0 0 (AA w) := by
  refine m_entry (own := RX3) (f := fV) hx (by decide) rfl (Nat.le_of_ble_eq_true rfl) (fun p e s m args below meth c C => ?_)
  show GO p l e _ s m args below meth c w 1 fV (f_X3_clear h o0) 0 [(0, .ref (w.2.1 (o0)))] [] h
  unfold f_X3_clear
  refine g_aload_n (pc := 0) C 0 rfl dX3_clear_0 rfl ?_
  refine g_iconst (pc := 1) (v := 1) C dX3_clear_1 kc_1 ?_
  refine g_putI (pc := 2) C (so_RX3 ho0) 0 fp_RX3_21 (se_RX3_0 _) rfl rfl (sl_RX3_0) dX3_clear_2 ?_
  refine g_nm (fun h1 => ?_)
  refine g_aload_n (pc := 5) C 0 rfl dX3_clear_5 rfl ?_
  refine g_iconst (pc := 6) (v := 0) C dX3_clear_6 kc_0 ?_
  refine g_putI (pc := 7) C (so_RX3 ho0) 1 fp_RX3_25 (se_RX3_1 _) rfl rfl (sl_RX3_1) dX3_clear_7 ?_
  refine g_nm (fun h2 => ?_)
  refine g_aload_n (pc := 10) C 0 rfl dX3_clear_10 rfl ?_
  refine g_iconst (pc := 11) (v := 0) C dX3_clear_11 kc_0 ?_
  refine g_putI (pc := 12) C (so_RX3 ho0) 2 fp_RX3_29 (se_RX3_2 _) rfl rfl (sl_RX3_2) dX3_clear_12 ?_
  refine g_nm (fun h3 => ?_)
  refine g_aload_n (pc := 15) C 0 rfl dX3_clear_15 rfl ?_
  refine g_iconst (pc := 16) (v := 2) C dX3_clear_16 kc_2 ?_
  refine g_putI (pc := 17) C (so_RX3 ho0) 3 fp_RX3_32 (se_RX3_3 _) rfl rfl (sl_RX3_3) dX3_clear_17 ?_
  refine g_nm (fun h4 => ?_)
  exact g_vret C dX3_clear_20
/-- SnowHouse$Reader.sign()I -/
def f_X4_sign (h : TT)  : Option Int32 := (f_X7_isBelow h (h.1 127 5) (h.1 127 4)).bind fun r1 => (if r1 = 0 then some (-1 : Int32) else if isTx ((h.1 127 3).toNatClampNeg) = true then if inb (h.1 127 5) 80 = true then some (h.1 ((h.1 127 3).toNatClampNeg) (h.1 127 5).toNatClampNeg) else none else none)
set_option maxRecDepth 20000 in
theorem m_X4_sign {l : Launch} {w : WK} {h : TT}  {x : Int32} (hx : f_X4_sign h  = some x)  : Met l yX4_sign (Cond.code yX4_sign cX4_sign 1 (some .int) :: wsG) { frames := 1, cells := 0, slots := 0, locals := 21 } (PG w [.ref (w.2.1 (127))] h) (QG w ((fI h) x)) 0 0 (AA w) := by
  refine m_entry (own := RX4) (f := (fI h)) hx (by decide) rfl (Nat.le_of_ble_eq_true rfl) (fun p e s m args below meth c C => ?_)
  show GO p l e _ s m args below meth c w 1 (fI h) (f_X4_sign h ) 0 [(0, .ref (w.2.1 (127)))] [] h
  unfold f_X4_sign
  refine g_aload_n (pc := 0) C 0 rfl dX4_sign_0 rfl ?_
  refine g_get (pc := 1) C so_RX4 5 fl_RX4_57 (v := .int (h.1 127 5)) rfl dX4_sign_1 ?_
  refine g_aload_n (pc := 4) C 0 rfl dX4_sign_4 rfl ?_
  refine g_get (pc := 5) C so_RX4 4 fl_RX4_77 (v := .int (h.1 127 4)) rfl dX4_sign_5 ?_
  refine g_callI (pc := 8) (rest := []) (g_runN C mn_RX4_89 (fun x1 hx1 => m_X7_isBelow hx1) (by decide) rfl rfl (Nat.le_of_ble_eq_true rfl) dX4_sign_8) (fun r1 => ?_)
  refine g_if_eq (pc := 11) (tgt := 26) C dX4_sign_11 (by decide) (fun hc2 => ?_) (fun hc2 => ?_)
  · refine g_iconst (pc := 26) (v := -1) C dX4_sign_26 kc_m1 ?_
    exact g_iret C dX4_sign_27
  · refine g_aload_n (pc := 14) C 0 rfl dX4_sign_14 rfl ?_
    refine g_get (pc := 15) C so_RX4 3 fl_RX4_25 (v := .ref (w.2.1 ((h.1 127 3).toNatClampNeg))) rfl dX4_sign_15 ?_
    refine g_guard (fun ht3 => ?_)
    refine g_aload_n (pc := 18) C 0 rfl dX4_sign_18 rfl ?_
    refine g_get (pc := 19) C so_RX4 5 fl_RX4_57 (v := .int (h.1 127 5)) rfl dX4_sign_19 ?_
    refine g_bald (pc := 22) C (sbTx ht3) dX4_sign_22 (fun hb4 => ?_)
    refine g_goto (pc := 23) (tgt := 27) C dX4_sign_23 (by decide) ?_
    exact g_iret C dX4_sign_27
/-- SnowHouse$Reader.comesMore()Z -/
def f_X4_comesMore_33    (h : TT) : Option (Int32 × TT) := (if (h.1 127 4) ≤ (h.1 127 5) then some ((0 : Int32), h) else some ((1 : Int32), h))
set_option maxRecDepth 20000 in
theorem j_X4_comesMore_33 {p : Program} {l : Launch} {e : Env} {R : Room} {s : State} {m : MethodId} {args : Array Value} {below : List Frame} {meth : Method} {c : Code} {w : WK} (C : CX p R s m args meth c w RX4 cX4_comesMore 1 (some .boolean) 2 41)       (h : TT) : GO p l e R s m args below meth c w 1 fIT (f_X4_comesMore_33 h) 33 [(0, .ref (w.2.1 (127)))] [] h := by
  unfold f_X4_comesMore_33
  refine g_aload_n (pc := 33) C 0 rfl dX4_comesMore_33 rfl ?_
  refine g_get (pc := 34) C so_RX4 5 fl_RX4_57 (v := .int (h.1 127 5)) rfl dX4_comesMore_34 ?_
  refine g_aload_n (pc := 37) C 0 rfl dX4_comesMore_37 rfl ?_
  refine g_get (pc := 38) C so_RX4 4 fl_RX4_77 (v := .int (h.1 127 4)) rfl dX4_comesMore_38 ?_
  refine g_icmp_ge (pc := 41) (tgt := 48) C dX4_comesMore_41 (by decide) (fun hc2 => ?_) (fun hc2 => ?_)
  · refine g_iconst (pc := 48) (v := 0) C dX4_comesMore_48 kc_0 ?_
    exact g_zretT C dX4_comesMore_49 rfl
  · refine g_iconst (pc := 44) (v := 1) C dX4_comesMore_44 kc_1 ?_
    refine g_goto (pc := 45) (tgt := 49) C dX4_comesMore_45 (by decide) ?_
    exact g_zretT C dX4_comesMore_49 rfl
def f_X4_comesMore_0   : Nat → TT → Option (Int32 × TT)
  | 0, _ => none
  | n + 1, h => (if (h.1 127 4) ≤ (h.1 127 5) then f_X4_comesMore_33 h else (f_X4_sign h).bind fun r3 => (if r3 = (32 : Int32) then nm (wr h 127 5 ((h.1 127 5) + (1 : Int32))) fun h5 => f_X4_comesMore_0 n h5 else f_X4_comesMore_33 h))
set_option maxRecDepth 20000 in
theorem j_X4_comesMore_0 {p : Program} {l : Launch} {e : Env} {R : Room} {s : State} {m : MethodId} {args : Array Value} {below : List Frame} {meth : Method} {c : Code} {w : WK} (C : CX p R s m args meth c w RX4 cX4_comesMore 1 (some .boolean) 2 41)     : ∀ (n : Nat) (h : TT), GO p l e R s m args below meth c w 1 fIT (f_X4_comesMore_0 n h) 0 [(0, .ref (w.2.1 (127)))] [] h := by
  intro n
  induction n with
  | zero =>
    intro h
    exact g_none
  | succ n ih =>
    intro h
    rw [f_X4_comesMore_0]
    refine g_aload_n (pc := 0) C 0 rfl dX4_comesMore_0 rfl ?_
    refine g_get (pc := 1) C so_RX4 5 fl_RX4_57 (v := .int (h.1 127 5)) rfl dX4_comesMore_1 ?_
    refine g_aload_n (pc := 4) C 0 rfl dX4_comesMore_4 rfl ?_
    refine g_get (pc := 5) C so_RX4 4 fl_RX4_77 (v := .int (h.1 127 4)) rfl dX4_comesMore_5 ?_
    refine g_icmp_ge (pc := 8) (tgt := 33) C dX4_comesMore_8 (by decide) (fun hc1 => ?_) (fun hc1 => ?_)
    · exact j_X4_comesMore_33 C h
    · refine g_aload_n (pc := 11) C 0 rfl dX4_comesMore_11 rfl ?_
      refine g_callI (pc := 12) (rest := []) (g_runV C mv_RX4_64 (fun x1 hx1 => m_X4_sign hx1) so_RX4 rfl (by decide) rfl rfl (Nat.le_of_ble_eq_true rfl) dX4_comesMore_12) (fun r3 => ?_)
      refine g_bipush (pc := 15) (v := 32) C dX4_comesMore_15 kb_32 ?_
      refine g_icmp_ne (pc := 17) (tgt := 33) C dX4_comesMore_17 (by decide) (fun hc4 => ?_) (fun hc4 => ?_)
      · refine g_aload_n (pc := 20) C 0 rfl dX4_comesMore_20 rfl ?_
        refine g_dup (pc := 21) C dX4_comesMore_21 rfl ?_
        refine g_get (pc := 22) C so_RX4 5 fl_RX4_57 (v := .int (h.1 127 5)) rfl dX4_comesMore_22 ?_
        refine g_iconst (pc := 25) (v := 1) C dX4_comesMore_25 kc_1 ?_
        refine g_iadd (pc := 26) C dX4_comesMore_26 ?_
        refine g_putI (pc := 27) C so_RX4 5 fp_RX4_57 (se_RX4_5 _) rfl rfl (sl_RX4_5) dX4_comesMore_27 ?_
        refine g_nm (fun h5 => ?_)
        refine g_goto (pc := 30) (tgt := 0) C dX4_comesMore_30 (by decide) ?_
        exact ih h5
      · exact j_X4_comesMore_33 C h
def f_X4_comesMore (h : TT)  : Option (Int32 × TT) := f_X4_comesMore_0 KF h
set_option maxRecDepth 20000 in
theorem m_X4_comesMore {l : Launch} {w : WK} {h : TT}  {x : (Int32 × TT)} (hx : f_X4_comesMore h  = some x)  : Met l yX4_comesMore (Cond.code yX4_comesMore cX4_comesMore 1 (some .boolean) :: wsG) { frames := 2, cells := 0, slots := 0, locals := 41 } (PG w [.ref (w.2.1 (127))] h) (QG w (fIT x)) 0 0 (AA w) := by
  refine m_entry (own := RX4) (f := fIT) hx (by decide) rfl (Nat.le_of_ble_eq_true rfl) (fun p e s m args below meth c C => ?_)
  show GO p l e _ s m args below meth c w 1 fIT (f_X4_comesMore h ) 0 [(0, .ref (w.2.1 (127)))] [] h
  unfold f_X4_comesMore
  exact j_X4_comesMore_0 C KF h
/-- SnowHouse$Reader.readSign(I)Z -/
def f_X4_readSign (h : TT) (x1 : Int32) : Option (Int32 × TT) := (f_X4_sign h).bind fun r1 => (if r1 = x1 then nm (wr h 127 5 ((h.1 127 5) + (1 : Int32))) fun h3 => some ((1 : Int32), h3) else some ((0 : Int32), h))
set_option maxRecDepth 20000 in
theorem m_X4_readSign {l : Launch} {w : WK} {h : TT} {x1 : Int32} {x : (Int32 × TT)} (hx : f_X4_readSign h x1 = some x)  : Met l yX4_readSign (Cond.code yX4_readSign cX4_readSign 2 (some .boolean) :: wsG) { frames := 2, cells := 0, slots := 0, locals := 41 } (PG w [.ref (w.2.1 (127)), .int x1] h) (QG w (fIT x)) 0 0 (AA w) := by
  refine m_entry (own := RX4) (f := fIT) hx (by decide) rfl (Nat.le_of_ble_eq_true rfl) (fun p e s m args below meth c C => ?_)
  show GO p l e _ s m args below meth c w 2 fIT (f_X4_readSign h x1) 0 [(0, .ref (w.2.1 (127))), (1, .int x1)] [] h
  unfold f_X4_readSign
  refine g_aload_n (pc := 0) C 0 rfl dX4_readSign_0 rfl ?_
  refine g_callI (pc := 1) (rest := []) (g_runV C mv_RX4_64 (fun x1 hx1 => m_X4_sign hx1) so_RX4 rfl (by decide) rfl rfl (Nat.le_of_ble_eq_true rfl) dX4_readSign_1) (fun r1 => ?_)
  refine g_iload_n (pc := 4) C 1 rfl dX4_readSign_4 rfl ?_
  refine g_icmp_eq (pc := 5) (tgt := 10) C dX4_readSign_5 (by decide) (fun hc2 => ?_) (fun hc2 => ?_)
  · refine g_aload_n (pc := 10) C 0 rfl dX4_readSign_10 rfl ?_
    refine g_dup (pc := 11) C dX4_readSign_11 rfl ?_
    refine g_get (pc := 12) C so_RX4 5 fl_RX4_57 (v := .int (h.1 127 5)) rfl dX4_readSign_12 ?_
    refine g_iconst (pc := 15) (v := 1) C dX4_readSign_15 kc_1 ?_
    refine g_iadd (pc := 16) C dX4_readSign_16 ?_
    refine g_putI (pc := 17) C so_RX4 5 fp_RX4_57 (se_RX4_5 _) rfl rfl (sl_RX4_5) dX4_readSign_17 ?_
    refine g_nm (fun h3 => ?_)
    refine g_iconst (pc := 20) (v := 1) C dX4_readSign_20 kc_1 ?_
    exact g_zretT C dX4_readSign_21 rfl
  · refine g_iconst (pc := 8) (v := 0) C dX4_readSign_8 kc_0 ?_
    exact g_zretT C dX4_readSign_9 rfl
/-- SnowHouse$Reader.isFigure()Z -/
def f_X4_isFigure (h : TT)  : Option Int32 := (f_X4_sign h).bind fun r1 => (if r1 < (48 : Int32) then some (0 : Int32) else (if (57 : Int32) < r1 then some (0 : Int32) else some (1 : Int32)))
set_option maxRecDepth 20000 in
theorem m_X4_isFigure {l : Launch} {w : WK} {h : TT}  {x : Int32} (hx : f_X4_isFigure h  = some x)  : Met l yX4_isFigure (Cond.code yX4_isFigure cX4_isFigure 2 (some .boolean) :: wsG) { frames := 2, cells := 0, slots := 0, locals := 41 } (PG w [.ref (w.2.1 (127))] h) (QG w ((fI h) x)) 0 0 (AA w) := by
  refine m_entry (own := RX4) (f := (fI h)) hx (by decide) rfl (Nat.le_of_ble_eq_true rfl) (fun p e s m args below meth c C => ?_)
  show GO p l e _ s m args below meth c w 2 (fI h) (f_X4_isFigure h ) 0 [(0, .ref (w.2.1 (127)))] [] h
  unfold f_X4_isFigure
  refine g_aload_n (pc := 0) C 0 rfl dX4_isFigure_0 rfl ?_
  refine g_callI (pc := 1) (rest := []) (g_runV C mv_RX4_64 (fun x1 hx1 => m_X4_sign hx1) so_RX4 rfl (by decide) rfl rfl (Nat.le_of_ble_eq_true rfl) dX4_isFigure_1) (fun r1 => ?_)
  refine g_istore_n (pc := 4) C dX4_isFigure_4 rfl (by decide) (lv' := [(1, .int r1), (0, .ref (w.2.1 (127)))]) rfl ?_
  refine g_iload_n (pc := 5) C 0 rfl dX4_isFigure_5 rfl ?_
  refine g_bipush (pc := 6) (v := 48) C dX4_isFigure_6 kb_48 ?_
  refine g_icmp_lt (pc := 8) (tgt := 21) C dX4_isFigure_8 (by decide) (fun hc2 => ?_) (fun hc2 => ?_)
  · refine g_iconst (pc := 21) (v := 0) C dX4_isFigure_21 kc_0 ?_
    exact g_zret C dX4_isFigure_22 rfl
  · refine g_iload_n (pc := 11) C 0 rfl dX4_isFigure_11 rfl ?_
    refine g_bipush (pc := 12) (v := 57) C dX4_isFigure_12 kb_57 ?_
    refine g_icmp_gt (pc := 14) (tgt := 21) C dX4_isFigure_14 (by decide) (fun hc3 => ?_) (fun hc3 => ?_)
    · refine g_iconst (pc := 21) (v := 0) C dX4_isFigure_21 kc_0 ?_
      exact g_zret C dX4_isFigure_22 rfl
    · refine g_iconst (pc := 17) (v := 1) C dX4_isFigure_17 kc_1 ?_
      refine g_goto (pc := 18) (tgt := 22) C dX4_isFigure_18 (by decide) ?_
      exact g_zret C dX4_isFigure_22 rfl
/-- SnowHouse$Reader.readMinutes()Z -/
def f_X4_readMinutes (h : TT)  : Option (Int32 × TT) := nm (wr h 127 5 ((h.1 127 5) + (1 : Int32))) fun h1 => (f_X4_readSign h1 (58 : Int32)).bind fun q2 => (if q2.1 = 0 then some ((0 : Int32), q2.2) else (f_X4_isFigure q2.2).bind fun r4 => (if r4 = 0 then some ((0 : Int32), q2.2) else (f_X4_sign q2.2).bind fun r6 => (if r6 = (48 : Int32) then some ((0 : Int32), q2.2) else (f_X4_sign q2.2).bind fun r8 => nm (wr q2.2 130 3 (r8 - (48 : Int32))) fun h9 => nm (wr h9 127 5 ((h9.1 127 5) + (1 : Int32))) fun h10 => some ((1 : Int32), h10))))
set_option maxRecDepth 20000 in
theorem m_X4_readMinutes {l : Launch} {w : WK} {h : TT}  {x : (Int32 × TT)} (hx : f_X4_readMinutes h  = some x)  : Met l yX4_readMinutes (Cond.code yX4_readMinutes cX4_readMinutes 1 (some .boolean) :: wsG) { frames := 3, cells := 0, slots := 0, locals := 62 } (PG w [.ref (w.2.1 (127))] h) (QG w (fIT x)) 0 0 (AA w) := by
  refine m_entry (own := RX4) (f := fIT) hx (by decide) rfl (Nat.le_of_ble_eq_true rfl) (fun p e s m args below meth c C => ?_)
  show GO p l e _ s m args below meth c w 1 fIT (f_X4_readMinutes h ) 0 [(0, .ref (w.2.1 (127)))] [] h
  unfold f_X4_readMinutes
  refine g_aload_n (pc := 0) C 0 rfl dX4_readMinutes_0 rfl ?_
  refine g_dup (pc := 1) C dX4_readMinutes_1 rfl ?_
  refine g_get (pc := 2) C so_RX4 5 fl_RX4_57 (v := .int (h.1 127 5)) rfl dX4_readMinutes_2 ?_
  refine g_iconst (pc := 5) (v := 1) C dX4_readMinutes_5 kc_1 ?_
  refine g_iadd (pc := 6) C dX4_readMinutes_6 ?_
  refine g_putI (pc := 7) C so_RX4 5 fp_RX4_57 (se_RX4_5 _) rfl rfl (sl_RX4_5) dX4_readMinutes_7 ?_
  refine g_nm (fun h1 => ?_)
  refine g_aload_n (pc := 10) C 0 rfl dX4_readMinutes_10 rfl ?_
  refine g_bipush (pc := 11) (v := 58) C dX4_readMinutes_11 kb_58 ?_
  refine g_callIT (pc := 13) (rest := []) (g_runV C mv_RX4_111 (fun x1 hx1 => m_X4_readSign hx1) so_RX4 rfl (by decide) rfl rfl (Nat.le_of_ble_eq_true rfl) dX4_readMinutes_13) (fun q2 => ?_)
  refine g_if_ne (pc := 16) (tgt := 21) C dX4_readMinutes_16 (by decide) (fun hc3 => ?_) (fun hc3 => ?_)
  · refine g_iconst (pc := 19) (v := 0) C dX4_readMinutes_19 kc_0 ?_
    exact g_zretT C dX4_readMinutes_20 rfl
  · refine g_aload_n (pc := 21) C 0 rfl dX4_readMinutes_21 rfl ?_
    refine g_callI (pc := 22) (rest := []) (g_runV C mv_RX4_93 (fun x1 hx1 => m_X4_isFigure hx1) so_RX4 rfl (by decide) rfl rfl (Nat.le_of_ble_eq_true rfl) dX4_readMinutes_22) (fun r4 => ?_)
    refine g_if_eq (pc := 25) (tgt := 37) C dX4_readMinutes_25 (by decide) (fun hc5 => ?_) (fun hc5 => ?_)
    · refine g_iconst (pc := 37) (v := 0) C dX4_readMinutes_37 kc_0 ?_
      exact g_zretT C dX4_readMinutes_38 rfl
    · refine g_aload_n (pc := 28) C 0 rfl dX4_readMinutes_28 rfl ?_
      refine g_callI (pc := 29) (rest := []) (g_runV C mv_RX4_64 (fun x1 hx1 => m_X4_sign hx1) so_RX4 rfl (by decide) rfl rfl (Nat.le_of_ble_eq_true rfl) dX4_readMinutes_29) (fun r6 => ?_)
      refine g_bipush (pc := 32) (v := 48) C dX4_readMinutes_32 kb_48 ?_
      refine g_icmp_ne (pc := 34) (tgt := 39) C dX4_readMinutes_34 (by decide) (fun hc7 => ?_) (fun hc7 => ?_)
      · refine g_iconst (pc := 37) (v := 0) C dX4_readMinutes_37 kc_0 ?_
        exact g_zretT C dX4_readMinutes_38 rfl
      · refine g_aload_n (pc := 39) C 0 rfl dX4_readMinutes_39 rfl ?_
        refine g_get (pc := 40) C so_RX4 1 fl_RX4_21 (v := .ref (w.2.1 (130))) rfl dX4_readMinutes_40 ?_
        refine g_aload_n (pc := 43) C 0 rfl dX4_readMinutes_43 rfl ?_
        refine g_callI (pc := 44) (rest := [.ref (w.2.1 (130))]) (g_runV C mv_RX4_64 (fun x1 hx1 => m_X4_sign hx1) so_RX4 rfl (by decide) rfl rfl (Nat.le_of_ble_eq_true rfl) dX4_readMinutes_44) (fun r8 => ?_)
        refine g_bipush (pc := 47) (v := 48) C dX4_readMinutes_47 kb_48 ?_
        refine g_isub (pc := 49) C dX4_readMinutes_49 ?_
        refine g_putI (pc := 50) C (so_RX3 isP130) 3 fp_RX4_115 (se_RX3_3 _) rfl rfl (sl_RX3_3) dX4_readMinutes_50 ?_
        refine g_nm (fun h9 => ?_)
        refine g_aload_n (pc := 53) C 0 rfl dX4_readMinutes_53 rfl ?_
        refine g_dup (pc := 54) C dX4_readMinutes_54 rfl ?_
        refine g_get (pc := 55) C so_RX4 5 fl_RX4_57 (v := .int (h9.1 127 5)) rfl dX4_readMinutes_55 ?_
        refine g_iconst (pc := 58) (v := 1) C dX4_readMinutes_58 kc_1 ?_
        refine g_iadd (pc := 59) C dX4_readMinutes_59 ?_
        refine g_putI (pc := 60) C so_RX4 5 fp_RX4_57 (se_RX4_5 _) rfl rfl (sl_RX4_5) dX4_readMinutes_60 ?_
        refine g_nm (fun h10 => ?_)
        refine g_iconst (pc := 63) (v := 1) C dX4_readMinutes_63 kc_1 ?_
        exact g_zretT C dX4_readMinutes_64 rfl
/-- SnowHouse$Reader.readNumber()Z -/
def f_X4_readNumber (h : TT)  : Option (Int32 × TT) := (f_X4_isFigure h).bind fun r1 => (if r1 = 0 then some ((0 : Int32), h) else (f_X4_sign h).bind fun r3 => nm (wr h 127 6 (r3 - (48 : Int32))) fun h4 => nm (wr h4 127 5 ((h4.1 127 5) + (1 : Int32))) fun h5 => (f_X4_isFigure h5).bind fun r6 => (if r6 = 0 then some ((1 : Int32), h5) else (f_X4_sign h5).bind fun r8 => nm (wr h5 127 6 ((((10 : Int32) * (h5.1 127 6)) + r8) - (48 : Int32))) fun h9 => nm (wr h9 127 5 ((h9.1 127 5) + (1 : Int32))) fun h10 => some ((1 : Int32), h10)))
set_option maxRecDepth 20000 in
theorem m_X4_readNumber {l : Launch} {w : WK} {h : TT}  {x : (Int32 × TT)} (hx : f_X4_readNumber h  = some x)  : Met l yX4_readNumber (Cond.code yX4_readNumber cX4_readNumber 1 (some .boolean) :: wsG) { frames := 3, cells := 0, slots := 0, locals := 62 } (PG w [.ref (w.2.1 (127))] h) (QG w (fIT x)) 0 0 (AA w) := by
  refine m_entry (own := RX4) (f := fIT) hx (by decide) rfl (Nat.le_of_ble_eq_true rfl) (fun p e s m args below meth c C => ?_)
  show GO p l e _ s m args below meth c w 1 fIT (f_X4_readNumber h ) 0 [(0, .ref (w.2.1 (127)))] [] h
  unfold f_X4_readNumber
  refine g_aload_n (pc := 0) C 0 rfl dX4_readNumber_0 rfl ?_
  refine g_callI (pc := 1) (rest := []) (g_runV C mv_RX4_93 (fun x1 hx1 => m_X4_isFigure hx1) so_RX4 rfl (by decide) rfl rfl (Nat.le_of_ble_eq_true rfl) dX4_readNumber_1) (fun r1 => ?_)
  refine g_if_ne (pc := 4) (tgt := 9) C dX4_readNumber_4 (by decide) (fun hc2 => ?_) (fun hc2 => ?_)
  · refine g_iconst (pc := 7) (v := 0) C dX4_readNumber_7 kc_0 ?_
    exact g_zretT C dX4_readNumber_8 rfl
  · refine g_aload_n (pc := 9) C 0 rfl dX4_readNumber_9 rfl ?_
    refine g_aload_n (pc := 10) C 0 rfl dX4_readNumber_10 rfl ?_
    refine g_callI (pc := 11) (rest := [.ref (w.2.1 (127))]) (g_runV C mv_RX4_64 (fun x1 hx1 => m_X4_sign hx1) so_RX4 rfl (by decide) rfl rfl (Nat.le_of_ble_eq_true rfl) dX4_readNumber_11) (fun r3 => ?_)
    refine g_bipush (pc := 14) (v := 48) C dX4_readNumber_14 kb_48 ?_
    refine g_isub (pc := 16) C dX4_readNumber_16 ?_
    refine g_putI (pc := 17) C so_RX4 6 fp_RX4_96 (se_RX4_6 _) rfl rfl (sl_RX4_6) dX4_readNumber_17 ?_
    refine g_nm (fun h4 => ?_)
    refine g_aload_n (pc := 20) C 0 rfl dX4_readNumber_20 rfl ?_
    refine g_dup (pc := 21) C dX4_readNumber_21 rfl ?_
    refine g_get (pc := 22) C so_RX4 5 fl_RX4_57 (v := .int (h4.1 127 5)) rfl dX4_readNumber_22 ?_
    refine g_iconst (pc := 25) (v := 1) C dX4_readNumber_25 kc_1 ?_
    refine g_iadd (pc := 26) C dX4_readNumber_26 ?_
    refine g_putI (pc := 27) C so_RX4 5 fp_RX4_57 (se_RX4_5 _) rfl rfl (sl_RX4_5) dX4_readNumber_27 ?_
    refine g_nm (fun h5 => ?_)
    refine g_aload_n (pc := 30) C 0 rfl dX4_readNumber_30 rfl ?_
    refine g_callI (pc := 31) (rest := []) (g_runV C mv_RX4_93 (fun x1 hx1 => m_X4_isFigure hx1) so_RX4 rfl (by decide) rfl rfl (Nat.le_of_ble_eq_true rfl) dX4_readNumber_31) (fun r6 => ?_)
    refine g_if_eq (pc := 34) (tgt := 66) C dX4_readNumber_34 (by decide) (fun hc7 => ?_) (fun hc7 => ?_)
    · refine g_iconst (pc := 66) (v := 1) C dX4_readNumber_66 kc_1 ?_
      exact g_zretT C dX4_readNumber_67 rfl
    · refine g_aload_n (pc := 37) C 0 rfl dX4_readNumber_37 rfl ?_
      refine g_bipush (pc := 38) (v := 10) C dX4_readNumber_38 kb_10 ?_
      refine g_aload_n (pc := 40) C 0 rfl dX4_readNumber_40 rfl ?_
      refine g_get (pc := 41) C so_RX4 6 fl_RX4_96 (v := .int (h5.1 127 6)) rfl dX4_readNumber_41 ?_
      refine g_imul (pc := 44) C dX4_readNumber_44 ?_
      refine g_aload_n (pc := 45) C 0 rfl dX4_readNumber_45 rfl ?_
      refine g_callI (pc := 46) (rest := [.int ((10 : Int32) * (h5.1 127 6)), .ref (w.2.1 (127))]) (g_runV C mv_RX4_64 (fun x1 hx1 => m_X4_sign hx1) so_RX4 rfl (by decide) rfl rfl (Nat.le_of_ble_eq_true rfl) dX4_readNumber_46) (fun r8 => ?_)
      refine g_iadd (pc := 49) C dX4_readNumber_49 ?_
      refine g_bipush (pc := 50) (v := 48) C dX4_readNumber_50 kb_48 ?_
      refine g_isub (pc := 52) C dX4_readNumber_52 ?_
      refine g_putI (pc := 53) C so_RX4 6 fp_RX4_96 (se_RX4_6 _) rfl rfl (sl_RX4_6) dX4_readNumber_53 ?_
      refine g_nm (fun h9 => ?_)
      refine g_aload_n (pc := 56) C 0 rfl dX4_readNumber_56 rfl ?_
      refine g_dup (pc := 57) C dX4_readNumber_57 rfl ?_
      refine g_get (pc := 58) C so_RX4 5 fl_RX4_57 (v := .int (h9.1 127 5)) rfl dX4_readNumber_58 ?_
      refine g_iconst (pc := 61) (v := 1) C dX4_readNumber_61 kc_1 ?_
      refine g_iadd (pc := 62) C dX4_readNumber_62 ?_
      refine g_putI (pc := 63) C so_RX4 5 fp_RX4_57 (se_RX4_5 _) rfl rfl (sl_RX4_5) dX4_readNumber_63 ?_
      refine g_nm (fun h10 => ?_)
      refine g_iconst (pc := 66) (v := 1) C dX4_readNumber_66 kc_1 ?_
      exact g_zretT C dX4_readNumber_67 rfl
/-- SnowHouse$Plan.addCourse(III)V -/
def f_X3_addCourse (h : TT) (o0 : Nat) (x1 : Int32) (x2 : Int32) (x3 : Int32) : Option TT := (if (h.1 o0 1) < (8 : Int32) then if inb (h.1 o0 1) 8 = true then nm (wr h (o0 + 1) (h.1 o0 1).toNatClampNeg x1) fun h3 => if inb (h3.1 o0 1) 8 = true then nm (wr h3 (o0 + 2) (h3.1 o0 1).toNatClampNeg x2) fun h5 => if inb (h5.1 o0 1) 8 = true then nm (wr h5 (o0 + 3) (h5.1 o0 1).toNatClampNeg x3) fun h7 => nm (wr h7 o0 1 ((h7.1 o0 1) + (1 : Int32))) fun h8 => nm (wr h8 o0 2 ((h8.1 o0 2) + x2)) fun h9 => some h9 else none else none else none else some h)
set_option maxRecDepth 20000 in
theorem m_X3_addCourse {l : Launch} {w : WK} {h : TT} {o0 : Nat} {x1 : Int32} {x2 : Int32} {x3 : Int32} {x : TT} (hx : f_X3_addCourse h o0 x1 x2 x3 = some x) (ho0 : IsP o0) : Met l yX3_addCourse (Cond.code yX3_addCourse cX3_addCourse 4 none :: wsG) { frames := 0, cells := 0, slots := 0, locals := 0 } (PG w [.ref (w.2.1 (o0)), .int x1, .int x2, .int x3] h) (QG w (fV x)) 0 0 (AA w) := by
  refine m_entry (own := RX3) (f := fV) hx (by decide) rfl (Nat.le_of_ble_eq_true rfl) (fun p e s m args below meth c C => ?_)
  show GO p l e _ s m args below meth c w 4 fV (f_X3_addCourse h o0 x1 x2 x3) 0 [(0, .ref (w.2.1 (o0))), (1, .int x1), (2, .int x2), (3, .int x3)] [] h
  unfold f_X3_addCourse
  refine g_aload_n (pc := 0) C 0 rfl dX3_addCourse_0 rfl ?_
  refine g_get (pc := 1) C (so_RX3 ho0) 1 fl_RX3_25 (v := .int (h.1 o0 1)) rfl dX3_addCourse_1 ?_
  refine g_bipush (pc := 4) (v := 8) C dX3_addCourse_4 kb_8 ?_
  refine g_icmp_lt (pc := 6) (tgt := 10) C dX3_addCourse_6 (by decide) (fun hc1 => ?_) (fun hc1 => ?_)
  · refine g_aload_n (pc := 10) C 0 rfl dX3_addCourse_10 rfl ?_
    refine g_get (pc := 11) C (so_RX3 ho0) 4 fl_RX3_9 (v := .ref (w.2.1 (o0 + 1))) rfl dX3_addCourse_11 ?_
    refine g_aload_n (pc := 14) C 0 rfl dX3_addCourse_14 rfl ?_
    refine g_get (pc := 15) C (so_RX3 ho0) 1 fl_RX3_25 (v := .int (h.1 o0 1)) rfl dX3_addCourse_15 ?_
    refine g_iload_n (pc := 18) C 1 rfl dX3_addCourse_18 rfl ?_
    refine g_iast (pc := 19) C (siP1 ho0) dX3_addCourse_19 (fun hb2 => ?_)
    refine g_nm (fun h3 => ?_)
    refine g_aload_n (pc := 20) C 0 rfl dX3_addCourse_20 rfl ?_
    refine g_get (pc := 21) C (so_RX3 ho0) 5 fl_RX3_15 (v := .ref (w.2.1 (o0 + 2))) rfl dX3_addCourse_21 ?_
    refine g_aload_n (pc := 24) C 0 rfl dX3_addCourse_24 rfl ?_
    refine g_get (pc := 25) C (so_RX3 ho0) 1 fl_RX3_25 (v := .int (h3.1 o0 1)) rfl dX3_addCourse_25 ?_
    refine g_iload_n (pc := 28) C 2 rfl dX3_addCourse_28 rfl ?_
    refine g_iast (pc := 29) C (siP2 ho0) dX3_addCourse_29 (fun hb4 => ?_)
    refine g_nm (fun h5 => ?_)
    refine g_aload_n (pc := 30) C 0 rfl dX3_addCourse_30 rfl ?_
    refine g_get (pc := 31) C (so_RX3 ho0) 6 fl_RX3_18 (v := .ref (w.2.1 (o0 + 3))) rfl dX3_addCourse_31 ?_
    refine g_aload_n (pc := 34) C 0 rfl dX3_addCourse_34 rfl ?_
    refine g_get (pc := 35) C (so_RX3 ho0) 1 fl_RX3_25 (v := .int (h5.1 o0 1)) rfl dX3_addCourse_35 ?_
    refine g_iload_n (pc := 38) C 3 rfl dX3_addCourse_38 rfl ?_
    refine g_iast (pc := 39) C (siP3 ho0) dX3_addCourse_39 (fun hb6 => ?_)
    refine g_nm (fun h7 => ?_)
    refine g_aload_n (pc := 40) C 0 rfl dX3_addCourse_40 rfl ?_
    refine g_dup (pc := 41) C dX3_addCourse_41 rfl ?_
    refine g_get (pc := 42) C (so_RX3 ho0) 1 fl_RX3_25 (v := .int (h7.1 o0 1)) rfl dX3_addCourse_42 ?_
    refine g_iconst (pc := 45) (v := 1) C dX3_addCourse_45 kc_1 ?_
    refine g_iadd (pc := 46) C dX3_addCourse_46 ?_
    refine g_putI (pc := 47) C (so_RX3 ho0) 1 fp_RX3_25 (se_RX3_1 _) rfl rfl (sl_RX3_1) dX3_addCourse_47 ?_
    refine g_nm (fun h8 => ?_)
    refine g_aload_n (pc := 50) C 0 rfl dX3_addCourse_50 rfl ?_
    refine g_dup (pc := 51) C dX3_addCourse_51 rfl ?_
    refine g_get (pc := 52) C (so_RX3 ho0) 2 fl_RX3_29 (v := .int (h8.1 o0 2)) rfl dX3_addCourse_52 ?_
    refine g_iload_n (pc := 55) C 2 rfl dX3_addCourse_55 rfl ?_
    refine g_iadd (pc := 56) C dX3_addCourse_56 ?_
    refine g_putI (pc := 57) C (so_RX3 ho0) 2 fp_RX3_29 (se_RX3_2 _) rfl rfl (sl_RX3_2) dX3_addCourse_57 ?_
    refine g_nm (fun h9 => ?_)
    exact g_vret C dX3_addCourse_60
  · exact g_vret C dX3_addCourse_9
/-- SnowHouse$Reader.readCourse()Z -/
def f_X4_readCourse_121   (xs0 : Int32) (h : TT) : Option (Int32 × TT) := (f_X4_sign h).bind fun r15 => (f_X3_addCourse h 130 xs0 (h.1 127 6) (r15 - (48 : Int32))).bind fun h16 => nm (wr h16 127 5 ((h16.1 127 5) + (1 : Int32))) fun h17 => some ((1 : Int32), h17)
set_option maxRecDepth 20000 in
theorem j_X4_readCourse_121 {p : Program} {l : Launch} {e : Env} {R : Room} {s : State} {m : MethodId} {args : Array Value} {below : List Frame} {meth : Method} {c : Code} {w : WK} (C : CX p R s m args meth c w RX4 cX4_readCourse 2 (some .boolean) 4 82)     (xs0 : Int32)  (h : TT) : GO p l e R s m args below meth c w 2 fIT (f_X4_readCourse_121 xs0 h) 121 [(0, .ref (w.2.1 (127)))] [.int xs0, .ref (w.2.1 (130))] h := by
  unfold f_X4_readCourse_121
  refine g_aload_n (pc := 121) C 0 rfl dX4_readCourse_121 rfl ?_
  refine g_get (pc := 122) C so_RX4 6 fl_RX4_96 (v := .int (h.1 127 6)) rfl dX4_readCourse_122 ?_
  refine g_aload_n (pc := 125) C 0 rfl dX4_readCourse_125 rfl ?_
  refine g_callI (pc := 126) (rest := [.int (h.1 127 6), .int xs0, .ref (w.2.1 (130))]) (g_runV C mv_RX4_64 (fun x1 hx1 => m_X4_sign hx1) so_RX4 rfl (by decide) rfl rfl (Nat.le_of_ble_eq_true rfl) dX4_readCourse_126) (fun r15 => ?_)
  refine g_bipush (pc := 129) (v := 48) C dX4_readCourse_129 kb_48 ?_
  refine g_isub (pc := 131) C dX4_readCourse_131 ?_
  refine g_callV (pc := 132) (rest := []) (g_runV C mv_RX4_121 (fun x1 hx1 => m_X3_addCourse hx1 isP130) (so_RX3 isP130) rfl (by decide) rfl rfl (Nat.le_of_ble_eq_true rfl) dX4_readCourse_132) (fun h16 => ?_)
  refine g_aload_n (pc := 135) C 0 rfl dX4_readCourse_135 rfl ?_
  refine g_dup (pc := 136) C dX4_readCourse_136 rfl ?_
  refine g_get (pc := 137) C so_RX4 5 fl_RX4_57 (v := .int (h16.1 127 5)) rfl dX4_readCourse_137 ?_
  refine g_iconst (pc := 140) (v := 1) C dX4_readCourse_140 kc_1 ?_
  refine g_iadd (pc := 141) C dX4_readCourse_141 ?_
  refine g_putI (pc := 142) C so_RX4 5 fp_RX4_57 (se_RX4_5 _) rfl rfl (sl_RX4_5) dX4_readCourse_142 ?_
  refine g_nm (fun h17 => ?_)
  refine g_iconst (pc := 145) (v := 1) C dX4_readCourse_145 kc_1 ?_
  exact g_zretT C dX4_readCourse_146 rfl
def f_X4_readCourse_19   (x1 : Int32) (h : TT) : Option (Int32 × TT) := (if (h.1 130 1) < (8 : Int32) then nm (wr h 127 5 ((h.1 127 5) + (1 : Int32))) fun h4 => (f_X4_readNumber h4).bind fun q5 => (if q5.1 = 0 then some ((0 : Int32), q5.2) else (if (q5.2.1 127 6) < (1 : Int32) then some ((0 : Int32), q5.2) else (if (12 : Int32) < (q5.2.1 127 6) then some ((0 : Int32), q5.2) else (if ((q5.2.1 130 2) + (q5.2.1 127 6)) ≤ (60 : Int32) then (f_X4_readSign q5.2 (58 : Int32)).bind fun q10 => (if q10.1 = 0 then some ((0 : Int32), q10.2) else (f_X4_isFigure q10.2).bind fun r12 => (if r12 = 0 then some ((0 : Int32), q10.2) else (if x1 = (114 : Int32) then f_X4_readCourse_121 (1 : Int32) q10.2 else f_X4_readCourse_121 (2 : Int32) q10.2))) else some ((0 : Int32), q5.2))))) else some ((0 : Int32), h))
set_option maxRecDepth 20000 in
theorem j_X4_readCourse_19 {p : Program} {l : Launch} {e : Env} {R : Room} {s : State} {m : MethodId} {args : Array Value} {below : List Frame} {meth : Method} {c : Code} {w : WK} (C : CX p R s m args meth c w RX4 cX4_readCourse 2 (some .boolean) 4 82)     (x1 : Int32)  (h : TT) : GO p l e R s m args below meth c w 2 fIT (f_X4_readCourse_19 x1 h) 19 [(0, .ref (w.2.1 (127))), (1, .int x1)] [] h := by
  unfold f_X4_readCourse_19
  refine g_aload_n (pc := 19) C 0 rfl dX4_readCourse_19 rfl ?_
  refine g_get (pc := 20) C so_RX4 1 fl_RX4_21 (v := .ref (w.2.1 (130))) rfl dX4_readCourse_20 ?_
  refine g_get (pc := 23) C (so_RX3 isP130) 1 fl_RX4_74 (v := .int (h.1 130 1)) rfl dX4_readCourse_23 ?_
  refine g_bipush (pc := 26) (v := 8) C dX4_readCourse_26 kb_8 ?_
  refine g_icmp_lt (pc := 28) (tgt := 33) C dX4_readCourse_28 (by decide) (fun hc3 => ?_) (fun hc3 => ?_)
  · refine g_aload_n (pc := 33) C 0 rfl dX4_readCourse_33 rfl ?_
    refine g_dup (pc := 34) C dX4_readCourse_34 rfl ?_
    refine g_get (pc := 35) C so_RX4 5 fl_RX4_57 (v := .int (h.1 127 5)) rfl dX4_readCourse_35 ?_
    refine g_iconst (pc := 38) (v := 1) C dX4_readCourse_38 kc_1 ?_
    refine g_iadd (pc := 39) C dX4_readCourse_39 ?_
    refine g_putI (pc := 40) C so_RX4 5 fp_RX4_57 (se_RX4_5 _) rfl rfl (sl_RX4_5) dX4_readCourse_40 ?_
    refine g_nm (fun h4 => ?_)
    refine g_aload_n (pc := 43) C 0 rfl dX4_readCourse_43 rfl ?_
    refine g_callIT (pc := 44) (rest := []) (g_runV C mv_RX4_102 (fun x1 hx1 => m_X4_readNumber hx1) so_RX4 rfl (by decide) rfl rfl (Nat.le_of_ble_eq_true rfl) dX4_readCourse_44) (fun q5 => ?_)
    refine g_if_ne (pc := 47) (tgt := 52) C dX4_readCourse_47 (by decide) (fun hc6 => ?_) (fun hc6 => ?_)
    · refine g_iconst (pc := 50) (v := 0) C dX4_readCourse_50 kc_0 ?_
      exact g_zretT C dX4_readCourse_51 rfl
    · refine g_aload_n (pc := 52) C 0 rfl dX4_readCourse_52 rfl ?_
      refine g_get (pc := 53) C so_RX4 6 fl_RX4_96 (v := .int (q5.2.1 127 6)) rfl dX4_readCourse_53 ?_
      refine g_iconst (pc := 56) (v := 1) C dX4_readCourse_56 kc_1 ?_
      refine g_icmp_lt (pc := 57) (tgt := 86) C dX4_readCourse_57 (by decide) (fun hc7 => ?_) (fun hc7 => ?_)
      · refine g_iconst (pc := 86) (v := 0) C dX4_readCourse_86 kc_0 ?_
        exact g_zretT C dX4_readCourse_87 rfl
      · refine g_aload_n (pc := 60) C 0 rfl dX4_readCourse_60 rfl ?_
        refine g_get (pc := 61) C so_RX4 6 fl_RX4_96 (v := .int (q5.2.1 127 6)) rfl dX4_readCourse_61 ?_
        refine g_bipush (pc := 64) (v := 12) C dX4_readCourse_64 kb_12 ?_
        refine g_icmp_gt (pc := 66) (tgt := 86) C dX4_readCourse_66 (by decide) (fun hc8 => ?_) (fun hc8 => ?_)
        · refine g_iconst (pc := 86) (v := 0) C dX4_readCourse_86 kc_0 ?_
          exact g_zretT C dX4_readCourse_87 rfl
        · refine g_aload_n (pc := 69) C 0 rfl dX4_readCourse_69 rfl ?_
          refine g_get (pc := 70) C so_RX4 1 fl_RX4_21 (v := .ref (w.2.1 (130))) rfl dX4_readCourse_70 ?_
          refine g_get (pc := 73) C (so_RX3 isP130) 2 fl_RX4_118 (v := .int (q5.2.1 130 2)) rfl dX4_readCourse_73 ?_
          refine g_aload_n (pc := 76) C 0 rfl dX4_readCourse_76 rfl ?_
          refine g_get (pc := 77) C so_RX4 6 fl_RX4_96 (v := .int (q5.2.1 127 6)) rfl dX4_readCourse_77 ?_
          refine g_iadd (pc := 80) C dX4_readCourse_80 ?_
          refine g_bipush (pc := 81) (v := 60) C dX4_readCourse_81 kb_60 ?_
          refine g_icmp_le (pc := 83) (tgt := 88) C dX4_readCourse_83 (by decide) (fun hc9 => ?_) (fun hc9 => ?_)
          · refine g_aload_n (pc := 88) C 0 rfl dX4_readCourse_88 rfl ?_
            refine g_bipush (pc := 89) (v := 58) C dX4_readCourse_89 kb_58 ?_
            refine g_callIT (pc := 91) (rest := []) (g_runV C mv_RX4_111 (fun x1 hx1 => m_X4_readSign hx1) so_RX4 rfl (by decide) rfl rfl (Nat.le_of_ble_eq_true rfl) dX4_readCourse_91) (fun q10 => ?_)
            refine g_if_eq (pc := 94) (tgt := 104) C dX4_readCourse_94 (by decide) (fun hc11 => ?_) (fun hc11 => ?_)
            · refine g_iconst (pc := 104) (v := 0) C dX4_readCourse_104 kc_0 ?_
              exact g_zretT C dX4_readCourse_105 rfl
            · refine g_aload_n (pc := 97) C 0 rfl dX4_readCourse_97 rfl ?_
              refine g_callI (pc := 98) (rest := []) (g_runV C mv_RX4_93 (fun x1 hx1 => m_X4_isFigure hx1) so_RX4 rfl (by decide) rfl rfl (Nat.le_of_ble_eq_true rfl) dX4_readCourse_98) (fun r12 => ?_)
              refine g_if_ne (pc := 101) (tgt := 106) C dX4_readCourse_101 (by decide) (fun hc13 => ?_) (fun hc13 => ?_)
              · refine g_iconst (pc := 104) (v := 0) C dX4_readCourse_104 kc_0 ?_
                exact g_zretT C dX4_readCourse_105 rfl
              · refine g_aload_n (pc := 106) C 0 rfl dX4_readCourse_106 rfl ?_
                refine g_get (pc := 107) C so_RX4 1 fl_RX4_21 (v := .ref (w.2.1 (130))) rfl dX4_readCourse_107 ?_
                refine g_iload_n (pc := 110) C 1 rfl dX4_readCourse_110 rfl ?_
                refine g_bipush (pc := 111) (v := 114) C dX4_readCourse_111 kb_114 ?_
                refine g_icmp_ne (pc := 113) (tgt := 120) C dX4_readCourse_113 (by decide) (fun hc14 => ?_) (fun hc14 => ?_)
                · refine g_iconst (pc := 116) (v := 1) C dX4_readCourse_116 kc_1 ?_
                  refine g_goto (pc := 117) (tgt := 121) C dX4_readCourse_117 (by decide) ?_
                  refine g_lv (lv' := [(0, .ref (w.2.1 (127)))]) [0] rfl ?_
                  exact j_X4_readCourse_121 C (1 : Int32) q10.2
                · refine g_iconst (pc := 120) (v := 2) C dX4_readCourse_120 kc_2 ?_
                  refine g_lv (lv' := [(0, .ref (w.2.1 (127)))]) [0] rfl ?_
                  exact j_X4_readCourse_121 C (2 : Int32) q10.2
          · refine g_iconst (pc := 86) (v := 0) C dX4_readCourse_86 kc_0 ?_
            exact g_zretT C dX4_readCourse_87 rfl
  · refine g_iconst (pc := 31) (v := 0) C dX4_readCourse_31 kc_0 ?_
    exact g_zretT C dX4_readCourse_32 rfl
def f_X4_readCourse (h : TT)  : Option (Int32 × TT) := (f_X4_sign h).bind fun r1 => (if r1 = (114 : Int32) then f_X4_readCourse_19 r1 h else (if r1 = (115 : Int32) then f_X4_readCourse_19 r1 h else some ((0 : Int32), h)))
set_option maxRecDepth 20000 in
theorem m_X4_readCourse {l : Launch} {w : WK} {h : TT}  {x : (Int32 × TT)} (hx : f_X4_readCourse h  = some x)  : Met l yX4_readCourse (Cond.code yX4_readCourse cX4_readCourse 2 (some .boolean) :: wsG) { frames := 4, cells := 0, slots := 0, locals := 82 } (PG w [.ref (w.2.1 (127))] h) (QG w (fIT x)) 0 0 (AA w) := by
  refine m_entry (own := RX4) (f := fIT) hx (by decide) rfl (Nat.le_of_ble_eq_true rfl) (fun p e s m args below meth c C => ?_)
  show GO p l e _ s m args below meth c w 2 fIT (f_X4_readCourse h ) 0 [(0, .ref (w.2.1 (127)))] [] h
  unfold f_X4_readCourse
  refine g_aload_n (pc := 0) C 0 rfl dX4_readCourse_0 rfl ?_
  refine g_callI (pc := 1) (rest := []) (g_runV C mv_RX4_64 (fun x1 hx1 => m_X4_sign hx1) so_RX4 rfl (by decide) rfl rfl (Nat.le_of_ble_eq_true rfl) dX4_readCourse_1) (fun r1 => ?_)
  refine g_istore_n (pc := 4) C dX4_readCourse_4 rfl (by decide) (lv' := [(1, .int r1), (0, .ref (w.2.1 (127)))]) rfl ?_
  refine g_iload_n (pc := 5) C 0 rfl dX4_readCourse_5 rfl ?_
  refine g_bipush (pc := 6) (v := 114) C dX4_readCourse_6 kb_114 ?_
  refine g_icmp_eq (pc := 8) (tgt := 19) C dX4_readCourse_8 (by decide) (fun hc2 => ?_) (fun hc2 => ?_)
  · refine g_lv (lv' := [(0, .ref (w.2.1 (127))), (1, .int r1)]) [1, 0] rfl ?_
    exact j_X4_readCourse_19 C r1 h
  · refine g_iload_n (pc := 11) C 0 rfl dX4_readCourse_11 rfl ?_
    refine g_bipush (pc := 12) (v := 115) C dX4_readCourse_12 kb_115 ?_
    refine g_icmp_eq (pc := 14) (tgt := 19) C dX4_readCourse_14 (by decide) (fun hc18 => ?_) (fun hc18 => ?_)
    · refine g_lv (lv' := [(0, .ref (w.2.1 (127))), (1, .int r1)]) [1, 0] rfl ?_
      exact j_X4_readCourse_19 C r1 h
    · refine g_iconst (pc := 17) (v := 0) C dX4_readCourse_17 kc_0 ?_
      exact g_zretT C dX4_readCourse_18 rfl
/-- SnowHouse$Reader.readPlan([BI)I -/
def f_X4_readPlan_66 (o1 n1 : Nat)   (h : TT) : Option (Int32 × TT) := (if (h.1 130 1) = 0 then some (h.1 127 4, h) else some ((-9 : Int32), h))
set_option maxRecDepth 20000 in
theorem j_X4_readPlan_66 {p : Program} {l : Launch} {e : Env} {R : Room} {s : State} {m : MethodId} {args : Array Value} {below : List Frame} {meth : Method} {c : Code} {w : WK} (C : CX p R s m args meth c w RX4 cX4_readPlan 5 (some .int) 5 103)  {o1 n1 : Nat} (ho1 : SB w o1 n1)    (h : TT) : GO p l e R s m args below meth c w 5 fIT (f_X4_readPlan_66 o1 n1 h) 66 [(0, .ref (w.2.1 (127)))] [] h := by
  unfold f_X4_readPlan_66
  refine g_aload_n (pc := 66) C 0 rfl dX4_readPlan_66 rfl ?_
  refine g_get (pc := 67) C so_RX4 1 fl_RX4_21 (v := .ref (w.2.1 (130))) rfl dX4_readPlan_67 ?_
  refine g_get (pc := 70) C (so_RX3 isP130) 1 fl_RX4_74 (v := .int (h.1 130 1)) rfl dX4_readPlan_70 ?_
  refine g_if_ne (pc := 73) (tgt := 83) C dX4_readPlan_73 (by decide) (fun hc4 => ?_) (fun hc4 => ?_)
  · refine g_aload_n (pc := 76) C 0 rfl dX4_readPlan_76 rfl ?_
    refine g_get (pc := 77) C so_RX4 4 fl_RX4_77 (v := .int (h.1 127 4)) rfl dX4_readPlan_77 ?_
    refine g_goto (pc := 80) (tgt := 85) C dX4_readPlan_80 (by decide) ?_
    exact g_iretT C dX4_readPlan_85
  · refine g_bipush (pc := 83) (v := -9) C dX4_readPlan_83 kb_m9 ?_
    exact g_iretT C dX4_readPlan_85
def f_X4_readPlan_48 (o1 n1 : Nat) (k15 : Int32 → TT → Option (Int32 × TT)) (x3 : Int32) (xs0 : Int32) (h : TT) : Option (Int32 × TT) := (if xs0 = 0 then some (h.1 127 5, h) else k15 (x3 + (1 : Int32)) h)
set_option maxRecDepth 20000 in
theorem j_X4_readPlan_48 {p : Program} {l : Launch} {e : Env} {R : Room} {s : State} {m : MethodId} {args : Array Value} {below : List Frame} {meth : Method} {c : Code} {w : WK} (C : CX p R s m args meth c w RX4 cX4_readPlan 5 (some .int) 5 103)  {o1 n1 : Nat} (ho1 : SB w o1 n1) {k15 : Int32 → TT → Option (Int32 × TT)} (hk15 : ∀ (x3 : Int32)  (h : TT), GO p l e R s m args below meth c w 5 fIT (k15 x3 h) 15 [(0, .ref (w.2.1 (127))), (3, .int x3)] [] h) (x3 : Int32) (xs0 : Int32)  (h : TT) : GO p l e R s m args below meth c w 5 fIT (f_X4_readPlan_48 o1 n1 k15 x3 xs0 h) 48 [(0, .ref (w.2.1 (127))), (3, .int x3)] [.int xs0] h := by
  unfold f_X4_readPlan_48
  refine g_istore (pc := 48) C dX4_readPlan_48 (by decide) (lv' := [(4, .int xs0), (0, .ref (w.2.1 (127))), (3, .int x3)]) rfl ?_
  refine g_iload (pc := 50) C 0 rfl dX4_readPlan_50 ?_
  refine g_if_ne (pc := 52) (tgt := 60) C dX4_readPlan_52 (by decide) (fun hc10 => ?_) (fun hc10 => ?_)
  · refine g_aload_n (pc := 55) C 1 rfl dX4_readPlan_55 rfl ?_
    refine g_get (pc := 56) C so_RX4 5 fl_RX4_57 (v := .int (h.1 127 5)) rfl dX4_readPlan_56 ?_
    exact g_iretT C dX4_readPlan_59
  · refine g_iinc (pc := 60) C 2 rfl dX4_readPlan_60 (ki_1 _) (by decide) (lv' := [(3, .int (x3 + (1 : Int32))), (4, .int xs0), (0, .ref (w.2.1 (127)))]) rfl ?_
    refine g_goto (pc := 63) (tgt := 15) C dX4_readPlan_63 (by decide) ?_
    refine g_lv (lv' := [(0, .ref (w.2.1 (127))), (3, .int (x3 + (1 : Int32)))]) [2, 0] rfl ?_
    exact hk15 (x3 + (1 : Int32)) h
def f_X4_readPlan_15 (o1 n1 : Nat)  : Nat → Int32 → TT → Option (Int32 × TT)
  | 0, _, _ => none
  | n + 1, x3, h => (if (80 : Int32) < x3 then f_X4_readPlan_66 o1 n1 h else (f_X4_comesMore h).bind fun q5 => (if q5.1 = 0 then f_X4_readPlan_66 o1 n1 q5.2 else (f_X4_sign q5.2).bind fun r7 => (if r7 = (109 : Int32) then (f_X4_readMinutes q5.2).bind fun q9 => f_X4_readPlan_48 o1 n1 (f_X4_readPlan_15 o1 n1 n) x3 q9.1 q9.2 else (f_X4_readCourse q5.2).bind fun q11 => f_X4_readPlan_48 o1 n1 (f_X4_readPlan_15 o1 n1 n) x3 q11.1 q11.2)))
set_option maxRecDepth 20000 in
theorem j_X4_readPlan_15 {p : Program} {l : Launch} {e : Env} {R : Room} {s : State} {m : MethodId} {args : Array Value} {below : List Frame} {meth : Method} {c : Code} {w : WK} (C : CX p R s m args meth c w RX4 cX4_readPlan 5 (some .int) 5 103)  {o1 n1 : Nat} (ho1 : SB w o1 n1)  : ∀ (n : Nat) (x3 : Int32) (h : TT), GO p l e R s m args below meth c w 5 fIT (f_X4_readPlan_15 o1 n1 n x3 h) 15 [(0, .ref (w.2.1 (127))), (3, .int x3)] [] h := by
  intro n
  induction n with
  | zero =>
    intro x3 h
    exact g_none
  | succ n ih =>
    intro x3 h
    rw [f_X4_readPlan_15]
    refine g_iload_n (pc := 15) C 1 rfl dX4_readPlan_15 rfl ?_
    refine g_bipush (pc := 16) (v := 80) C dX4_readPlan_16 kb_80 ?_
    refine g_icmp_gt (pc := 18) (tgt := 66) C dX4_readPlan_18 (by decide) (fun hc3 => ?_) (fun hc3 => ?_)
    · refine g_lv (lv' := [(0, .ref (w.2.1 (127)))]) [0] rfl ?_
      exact j_X4_readPlan_66 C ho1 h
    · refine g_aload_n (pc := 21) C 0 rfl dX4_readPlan_21 rfl ?_
      refine g_callIT (pc := 22) (rest := []) (g_runV C mv_RX4_50 (fun x1 hx1 => m_X4_comesMore hx1) so_RX4 rfl (by decide) rfl rfl (Nat.le_of_ble_eq_true rfl) dX4_readPlan_22) (fun q5 => ?_)
      refine g_if_eq (pc := 25) (tgt := 66) C dX4_readPlan_25 (by decide) (fun hc6 => ?_) (fun hc6 => ?_)
      · refine g_lv (lv' := [(0, .ref (w.2.1 (127)))]) [0] rfl ?_
        exact j_X4_readPlan_66 C ho1 q5.2
      · refine g_aload_n (pc := 28) C 0 rfl dX4_readPlan_28 rfl ?_
        refine g_callI (pc := 29) (rest := []) (g_runV C mv_RX4_64 (fun x1 hx1 => m_X4_sign hx1) so_RX4 rfl (by decide) rfl rfl (Nat.le_of_ble_eq_true rfl) dX4_readPlan_29) (fun r7 => ?_)
        refine g_bipush (pc := 32) (v := 109) C dX4_readPlan_32 kb_109 ?_
        refine g_icmp_ne (pc := 34) (tgt := 44) C dX4_readPlan_34 (by decide) (fun hc8 => ?_) (fun hc8 => ?_)
        · refine g_aload_n (pc := 37) C 0 rfl dX4_readPlan_37 rfl ?_
          refine g_callIT (pc := 38) (rest := []) (g_runV C mv_RX4_68 (fun x1 hx1 => m_X4_readMinutes hx1) so_RX4 rfl (by decide) rfl rfl (Nat.le_of_ble_eq_true rfl) dX4_readPlan_38) (fun q9 => ?_)
          refine g_goto (pc := 41) (tgt := 48) C dX4_readPlan_41 (by decide) ?_
          exact j_X4_readPlan_48 C ho1 ih x3 q9.1 q9.2
        · refine g_aload_n (pc := 44) C 0 rfl dX4_readPlan_44 rfl ?_
          refine g_callIT (pc := 45) (rest := []) (g_runV C mv_RX4_71 (fun x1 hx1 => m_X4_readCourse hx1) so_RX4 rfl (by decide) rfl rfl (Nat.le_of_ble_eq_true rfl) dX4_readPlan_45) (fun q11 => ?_)
          exact j_X4_readPlan_48 C ho1 ih x3 q11.1 q11.2
def f_X4_readPlan (h : TT) (o1 n1 : Nat) (x2 : Int32) : Option (Int32 × TT) := (f_X4_open h o1 n1 x2).bind fun h1 => (f_X3_clear h1 130).bind fun h2 => f_X4_readPlan_15 o1 n1 KF (0 : Int32) h2
set_option maxRecDepth 20000 in
theorem m_X4_readPlan {l : Launch} {w : WK} {h : TT} {o1 n1 : Nat} {x2 : Int32} {x : (Int32 × TT)} (hx : f_X4_readPlan h o1 n1 x2 = some x) (ho1 : SB w o1 n1) : Met l yX4_readPlan (Cond.code yX4_readPlan cX4_readPlan 5 (some .int) :: wsG) { frames := 5, cells := 0, slots := 0, locals := 103 } (PG w [.ref (w.2.1 (127)), .ref (w.2.1 (o1)), .int x2] h) (QG w (fIT x)) 0 0 (AA w) := by
  refine m_entry (own := RX4) (f := fIT) hx (by decide) rfl (Nat.le_of_ble_eq_true rfl) (fun p e s m args below meth c C => ?_)
  show GO p l e _ s m args below meth c w 5 fIT (f_X4_readPlan h o1 n1 x2) 0 [(0, .ref (w.2.1 (127))), (1, .ref (w.2.1 (o1))), (2, .int x2)] [] h
  unfold f_X4_readPlan
  refine g_aload_n (pc := 0) C 0 rfl dX4_readPlan_0 rfl ?_
  refine g_aload_n (pc := 1) C 1 rfl dX4_readPlan_1 rfl ?_
  refine g_iload_n (pc := 2) C 2 rfl dX4_readPlan_2 rfl ?_
  refine g_callV (pc := 3) (rest := []) (g_runV C mv_RX4_29 (fun x1 hx1 => m_X4_open hx1 ho1) so_RX4 rfl (by decide) rfl rfl (Nat.le_of_ble_eq_true rfl) dX4_readPlan_3) (fun h1 => ?_)
  refine g_aload_n (pc := 6) C 0 rfl dX4_readPlan_6 rfl ?_
  refine g_get (pc := 7) C so_RX4 1 fl_RX4_21 (v := .ref (w.2.1 (130))) rfl dX4_readPlan_7 ?_
  refine g_callV (pc := 10) (rest := []) (g_runV C mv_RX4_61 (fun x1 hx1 => m_X3_clear hx1 isP130) (so_RX3 isP130) rfl (by decide) rfl rfl (Nat.le_of_ble_eq_true rfl) dX4_readPlan_10) (fun h2 => ?_)
  refine g_iconst (pc := 13) (v := 0) C dX4_readPlan_13 kc_0 ?_
  refine g_istore_n (pc := 14) C dX4_readPlan_14 rfl (by decide) (lv' := [(3, .int (0 : Int32)), (0, .ref (w.2.1 (127))), (1, .ref (w.2.1 (o1))), (2, .int x2)]) rfl ?_
  refine g_lv (lv' := [(0, .ref (w.2.1 (127))), (3, .int (0 : Int32))]) [1, 0] rfl ?_
  exact j_X4_readPlan_15 C ho1 KF (0 : Int32) h2
/-- SnowHouse$Reader.readWorth()Z -/
def f_X4_readWorth_25   (x1 : Int32) (h : TT) : Option (Int32 × TT) := (if x1 < (4 : Int32) then nm (wr h 127 5 ((h.1 127 5) + (1 : Int32))) fun h3 => (f_X4_readNumber h3).bind fun q4 => (if q4.1 = 0 then some ((0 : Int32), q4.2) else if inb x1 4 = true then (if (q4.2.1 127 6) < (sv 1 x1.toNatClampNeg) then some ((0 : Int32), q4.2) else if inb x1 4 = true then (if (q4.2.1 127 6) ≤ (sv 2 x1.toNatClampNeg) then if inb x1 4 = true then nm (wr q4.2 (128 + 1) x1.toNatClampNeg (q4.2.1 127 6)) fun h11 => nm (wr h11 127 2 ((h11.1 127 2) + (1 : Int32))) fun h12 => some ((1 : Int32), h12) else none else some ((0 : Int32), q4.2)) else none) else none) else some ((0 : Int32), h))
set_option maxRecDepth 20000 in
theorem j_X4_readWorth_25 {p : Program} {l : Launch} {e : Env} {R : Room} {s : State} {m : MethodId} {args : Array Value} {below : List Frame} {meth : Method} {c : Code} {w : WK} (C : CX p R s m args meth c w RX4 cX4_readWorth 2 (some .boolean) 4 82)     (x1 : Int32)  (h : TT) : GO p l e R s m args below meth c w 2 fIT (f_X4_readWorth_25 x1 h) 25 [(0, .ref (w.2.1 (127))), (1, .int x1)] [] h := by
  unfold f_X4_readWorth_25
  refine g_iload_n (pc := 25) C 1 rfl dX4_readWorth_25 rfl ?_
  refine g_iconst (pc := 26) (v := 4) C dX4_readWorth_26 kc_4 ?_
  refine g_icmp_lt (pc := 27) (tgt := 32) C dX4_readWorth_27 (by decide) (fun hc2 => ?_) (fun hc2 => ?_)
  · refine g_aload_n (pc := 32) C 0 rfl dX4_readWorth_32 rfl ?_
    refine g_dup (pc := 33) C dX4_readWorth_33 rfl ?_
    refine g_get (pc := 34) C so_RX4 5 fl_RX4_57 (v := .int (h.1 127 5)) rfl dX4_readWorth_34 ?_
    refine g_iconst (pc := 37) (v := 1) C dX4_readWorth_37 kc_1 ?_
    refine g_iadd (pc := 38) C dX4_readWorth_38 ?_
    refine g_putI (pc := 39) C so_RX4 5 fp_RX4_57 (se_RX4_5 _) rfl rfl (sl_RX4_5) dX4_readWorth_39 ?_
    refine g_nm (fun h3 => ?_)
    refine g_aload_n (pc := 42) C 0 rfl dX4_readWorth_42 rfl ?_
    refine g_callIT (pc := 43) (rest := []) (g_runV C mv_RX4_102 (fun x1 hx1 => m_X4_readNumber hx1) so_RX4 rfl (by decide) rfl rfl (Nat.le_of_ble_eq_true rfl) dX4_readWorth_43) (fun q4 => ?_)
    refine g_if_ne (pc := 46) (tgt := 51) C dX4_readWorth_46 (by decide) (fun hc5 => ?_) (fun hc5 => ?_)
    · refine g_iconst (pc := 49) (v := 0) C dX4_readWorth_49 kc_0 ?_
      exact g_zretT C dX4_readWorth_50 rfl
    · refine g_aload_n (pc := 51) C 0 rfl dX4_readWorth_51 rfl ?_
      refine g_get (pc := 52) C so_RX4 6 fl_RX4_96 (v := .int (q4.2.1 127 6)) rfl dX4_readWorth_52 ?_
      refine g_gets (pc := 55) (j := 1) C (by decide) (by decide) dX4_readWorth_55 ?_
      refine g_iload_n (pc := 58) C 1 rfl dX4_readWorth_58 rfl ?_
      refine g_sld (pc := 59) C (by decide) dX4_readWorth_59 (fun hb6 => ?_)
      refine g_icmp_lt (pc := 60) (tgt := 75) C dX4_readWorth_60 (by decide) (fun hc7 => ?_) (fun hc7 => ?_)
      · refine g_iconst (pc := 75) (v := 0) C dX4_readWorth_75 kc_0 ?_
        exact g_zretT C dX4_readWorth_76 rfl
      · refine g_aload_n (pc := 63) C 0 rfl dX4_readWorth_63 rfl ?_
        refine g_get (pc := 64) C so_RX4 6 fl_RX4_96 (v := .int (q4.2.1 127 6)) rfl dX4_readWorth_64 ?_
        refine g_gets (pc := 67) (j := 2) C (by decide) (by decide) dX4_readWorth_67 ?_
        refine g_iload_n (pc := 70) C 1 rfl dX4_readWorth_70 rfl ?_
        refine g_sld (pc := 71) C (by decide) dX4_readWorth_71 (fun hb8 => ?_)
        refine g_icmp_le (pc := 72) (tgt := 77) C dX4_readWorth_72 (by decide) (fun hc9 => ?_) (fun hc9 => ?_)
        · refine g_aload_n (pc := 77) C 0 rfl dX4_readWorth_77 rfl ?_
          refine g_get (pc := 78) C so_RX4 0 fl_RX4_12 (v := .ref (w.2.1 (128))) rfl dX4_readWorth_78 ?_
          refine g_get (pc := 81) C (so_RX5 isS128) 1 fl_RX4_41 (v := .ref (w.2.1 (128 + 1))) rfl dX4_readWorth_81 ?_
          refine g_iload_n (pc := 84) C 1 rfl dX4_readWorth_84 rfl ?_
          refine g_aload_n (pc := 85) C 0 rfl dX4_readWorth_85 rfl ?_
          refine g_get (pc := 86) C so_RX4 6 fl_RX4_96 (v := .int (q4.2.1 127 6)) rfl dX4_readWorth_86 ?_
          refine g_iast (pc := 89) C (siS isS128) dX4_readWorth_89 (fun hb10 => ?_)
          refine g_nm (fun h11 => ?_)
          refine g_aload_n (pc := 90) C 0 rfl dX4_readWorth_90 rfl ?_
          refine g_dup (pc := 91) C dX4_readWorth_91 rfl ?_
          refine g_get (pc := 92) C so_RX4 2 fl_RX4_86 (v := .int (h11.1 127 2)) rfl dX4_readWorth_92 ?_
          refine g_iconst (pc := 95) (v := 1) C dX4_readWorth_95 kc_1 ?_
          refine g_iadd (pc := 96) C dX4_readWorth_96 ?_
          refine g_putI (pc := 97) C so_RX4 2 fp_RX4_86 (se_RX4_2 _) rfl rfl (sl_RX4_2) dX4_readWorth_97 ?_
          refine g_nm (fun h12 => ?_)
          refine g_iconst (pc := 100) (v := 1) C dX4_readWorth_100 kc_1 ?_
          exact g_zretT C dX4_readWorth_101 rfl
        · refine g_iconst (pc := 75) (v := 0) C dX4_readWorth_75 kc_0 ?_
          exact g_zretT C dX4_readWorth_76 rfl
  · refine g_iconst (pc := 30) (v := 0) C dX4_readWorth_30 kc_0 ?_
    exact g_zretT C dX4_readWorth_31 rfl
def f_X4_readWorth_2   : Nat → Int32 → TT → Option (Int32 × TT)
  | 0, _, _ => none
  | n + 1, x1, h => (if (4 : Int32) ≤ x1 then f_X4_readWorth_25 x1 h else if inb x1 4 = true then (f_X4_sign h).bind fun r14 => (if (sv 0 x1.toNatClampNeg) = r14 then f_X4_readWorth_25 x1 h else f_X4_readWorth_2 n (x1 + (1 : Int32)) h) else none)
set_option maxRecDepth 20000 in
theorem j_X4_readWorth_2 {p : Program} {l : Launch} {e : Env} {R : Room} {s : State} {m : MethodId} {args : Array Value} {below : List Frame} {meth : Method} {c : Code} {w : WK} (C : CX p R s m args meth c w RX4 cX4_readWorth 2 (some .boolean) 4 82)     : ∀ (n : Nat) (x1 : Int32) (h : TT), GO p l e R s m args below meth c w 2 fIT (f_X4_readWorth_2 n x1 h) 2 [(0, .ref (w.2.1 (127))), (1, .int x1)] [] h := by
  intro n
  induction n with
  | zero =>
    intro x1 h
    exact g_none
  | succ n ih =>
    intro x1 h
    rw [f_X4_readWorth_2]
    refine g_iload_n (pc := 2) C 1 rfl dX4_readWorth_2 rfl ?_
    refine g_iconst (pc := 3) (v := 4) C dX4_readWorth_3 kc_4 ?_
    refine g_icmp_ge (pc := 4) (tgt := 25) C dX4_readWorth_4 (by decide) (fun hc1 => ?_) (fun hc1 => ?_)
    · exact j_X4_readWorth_25 C x1 h
    · refine g_gets (pc := 7) (j := 0) C (by decide) (by decide) dX4_readWorth_7 ?_
      refine g_iload_n (pc := 10) C 1 rfl dX4_readWorth_10 rfl ?_
      refine g_sld (pc := 11) C (by decide) dX4_readWorth_11 (fun hb13 => ?_)
      refine g_aload_n (pc := 12) C 0 rfl dX4_readWorth_12 rfl ?_
      refine g_callI (pc := 13) (rest := [.int (sv 0 x1.toNatClampNeg)]) (g_runV C mv_RX4_64 (fun x1 hx1 => m_X4_sign hx1) so_RX4 rfl (by decide) rfl rfl (Nat.le_of_ble_eq_true rfl) dX4_readWorth_13) (fun r14 => ?_)
      refine g_icmp_eq (pc := 16) (tgt := 25) C dX4_readWorth_16 (by decide) (fun hc15 => ?_) (fun hc15 => ?_)
      · exact j_X4_readWorth_25 C x1 h
      · refine g_iinc (pc := 19) C 1 rfl dX4_readWorth_19 (ki_1 _) (by decide) (lv' := [(1, .int (x1 + (1 : Int32))), (0, .ref (w.2.1 (127)))]) rfl ?_
        refine g_goto (pc := 22) (tgt := 2) C dX4_readWorth_22 (by decide) ?_
        refine g_lv (lv' := [(0, .ref (w.2.1 (127))), (1, .int (x1 + (1 : Int32)))]) [1, 0] rfl ?_
        exact ih (x1 + (1 : Int32)) h
def f_X4_readWorth (h : TT)  : Option (Int32 × TT) := f_X4_readWorth_2 KF (0 : Int32) h
set_option maxRecDepth 20000 in
theorem m_X4_readWorth {l : Launch} {w : WK} {h : TT}  {x : (Int32 × TT)} (hx : f_X4_readWorth h  = some x)  : Met l yX4_readWorth (Cond.code yX4_readWorth cX4_readWorth 2 (some .boolean) :: wsG) { frames := 4, cells := 0, slots := 0, locals := 82 } (PG w [.ref (w.2.1 (127))] h) (QG w (fIT x)) 0 0 (AA w) := by
  refine m_entry (own := RX4) (f := fIT) hx (by decide) rfl (Nat.le_of_ble_eq_true rfl) (fun p e s m args below meth c C => ?_)
  show GO p l e _ s m args below meth c w 2 fIT (f_X4_readWorth h ) 0 [(0, .ref (w.2.1 (127)))] [] h
  unfold f_X4_readWorth
  refine g_iconst (pc := 0) (v := 0) C dX4_readWorth_0 kc_0 ?_
  refine g_istore_n (pc := 1) C dX4_readWorth_1 rfl (by decide) (lv' := [(1, .int (0 : Int32)), (0, .ref (w.2.1 (127)))]) rfl ?_
  refine g_lv (lv' := [(0, .ref (w.2.1 (127))), (1, .int (0 : Int32))]) [1, 0] rfl ?_
  exact j_X4_readWorth_2 C KF (0 : Int32) h
/-- SnowHouse$Reader.readSnow([BI)I -/
def f_X4_readSnow_32 (o1 n1 : Nat)  : Nat → Int32 → TT → Option (Int32 × TT)
  | 0, _, _ => none
  | n + 1, x3, h => (if (80 : Int32) < x3 then some ((-9 : Int32), h) else (f_X4_comesMore h).bind fun q6 => (if q6.1 = 0 then some ((-9 : Int32), q6.2) else (f_X4_readWorth q6.2).bind fun q8 => (if q8.1 = 0 then some (q8.2.1 127 5, q8.2) else f_X4_readSnow_32 o1 n1 n (x3 + (1 : Int32)) q8.2)))
set_option maxRecDepth 20000 in
theorem j_X4_readSnow_32 {p : Program} {l : Launch} {e : Env} {R : Room} {s : State} {m : MethodId} {args : Array Value} {below : List Frame} {meth : Method} {c : Code} {w : WK} (C : CX p R s m args meth c w RX4 cX4_readSnow 4 (some .int) 5 103)  {o1 n1 : Nat} (ho1 : SB w o1 n1)  : ∀ (n : Nat) (x3 : Int32) (h : TT), GO p l e R s m args below meth c w 4 fIT (f_X4_readSnow_32 o1 n1 n x3 h) 32 [(0, .ref (w.2.1 (127))), (3, .int x3)] [] h := by
  intro n
  induction n with
  | zero =>
    intro x3 h
    exact g_none
  | succ n ih =>
    intro x3 h
    rw [f_X4_readSnow_32]
    refine g_iload_n (pc := 32) C 1 rfl dX4_readSnow_32 rfl ?_
    refine g_bipush (pc := 33) (v := 80) C dX4_readSnow_33 kb_80 ?_
    refine g_icmp_gt (pc := 35) (tgt := 63) C dX4_readSnow_35 (by decide) (fun hc5 => ?_) (fun hc5 => ?_)
    · refine g_bipush (pc := 63) (v := -9) C dX4_readSnow_63 kb_m9 ?_
      exact g_iretT C dX4_readSnow_65
    · refine g_aload_n (pc := 38) C 0 rfl dX4_readSnow_38 rfl ?_
      refine g_callIT (pc := 39) (rest := []) (g_runV C mv_RX4_50 (fun x1 hx1 => m_X4_comesMore hx1) so_RX4 rfl (by decide) rfl rfl (Nat.le_of_ble_eq_true rfl) dX4_readSnow_39) (fun q6 => ?_)
      refine g_if_eq (pc := 42) (tgt := 63) C dX4_readSnow_42 (by decide) (fun hc7 => ?_) (fun hc7 => ?_)
      · refine g_bipush (pc := 63) (v := -9) C dX4_readSnow_63 kb_m9 ?_
        exact g_iretT C dX4_readSnow_65
      · refine g_aload_n (pc := 45) C 0 rfl dX4_readSnow_45 rfl ?_
        refine g_callIT (pc := 46) (rest := []) (g_runV C mv_RX4_54 (fun x1 hx1 => m_X4_readWorth hx1) so_RX4 rfl (by decide) rfl rfl (Nat.le_of_ble_eq_true rfl) dX4_readSnow_46) (fun q8 => ?_)
        refine g_if_ne (pc := 49) (tgt := 57) C dX4_readSnow_49 (by decide) (fun hc9 => ?_) (fun hc9 => ?_)
        · refine g_aload_n (pc := 52) C 0 rfl dX4_readSnow_52 rfl ?_
          refine g_get (pc := 53) C so_RX4 5 fl_RX4_57 (v := .int (q8.2.1 127 5)) rfl dX4_readSnow_53 ?_
          exact g_iretT C dX4_readSnow_56
        · refine g_iinc (pc := 57) C 1 rfl dX4_readSnow_57 (ki_1 _) (by decide) (lv' := [(3, .int (x3 + (1 : Int32))), (0, .ref (w.2.1 (127)))]) rfl ?_
          refine g_goto (pc := 60) (tgt := 32) C dX4_readSnow_60 (by decide) ?_
          refine g_lv (lv' := [(0, .ref (w.2.1 (127))), (3, .int (x3 + (1 : Int32)))]) [1, 0] rfl ?_
          exact ih (x3 + (1 : Int32)) q8.2
def f_X4_readSnow (h : TT) (o1 n1 : Nat) (x2 : Int32) : Option (Int32 × TT) := (f_X4_open h o1 n1 x2).bind fun h1 => nm (wr h1 128 0 (1 : Int32)) fun h2 => if cpok (0 : Int32) (0 : Int32) (4 : Int32) 4 4 = true then nm (wrow h2 (128 + 1) (va_cpy (sv 3) (h2.1 (128 + 1)) (0 : Int32).toNatClampNeg (0 : Int32).toNatClampNeg (4 : Int32).toNatClampNeg)) fun h4 => f_X4_readSnow_32 o1 n1 KF (0 : Int32) h4 else none
set_option maxRecDepth 20000 in
theorem m_X4_readSnow {l : Launch} {w : WK} {h : TT} {o1 n1 : Nat} {x2 : Int32} {x : (Int32 × TT)} (hx : f_X4_readSnow h o1 n1 x2 = some x) (ho1 : SB w o1 n1) : Met l yX4_readSnow (Cond.code yX4_readSnow cX4_readSnow 4 (some .int) :: wsG) { frames := 5, cells := 0, slots := 0, locals := 103 } (PG w [.ref (w.2.1 (127)), .ref (w.2.1 (o1)), .int x2] h) (QG w (fIT x)) 0 0 (AA w) := by
  refine m_entry (own := RX4) (f := fIT) hx (by decide) rfl (Nat.le_of_ble_eq_true rfl) (fun p e s m args below meth c C => ?_)
  show GO p l e _ s m args below meth c w 4 fIT (f_X4_readSnow h o1 n1 x2) 0 [(0, .ref (w.2.1 (127))), (1, .ref (w.2.1 (o1))), (2, .int x2)] [] h
  unfold f_X4_readSnow
  refine g_aload_n (pc := 0) C 0 rfl dX4_readSnow_0 rfl ?_
  refine g_aload_n (pc := 1) C 1 rfl dX4_readSnow_1 rfl ?_
  refine g_iload_n (pc := 2) C 2 rfl dX4_readSnow_2 rfl ?_
  refine g_callV (pc := 3) (rest := []) (g_runV C mv_RX4_29 (fun x1 hx1 => m_X4_open hx1 ho1) so_RX4 rfl (by decide) rfl rfl (Nat.le_of_ble_eq_true rfl) dX4_readSnow_3) (fun h1 => ?_)
  refine g_aload_n (pc := 6) C 0 rfl dX4_readSnow_6 rfl ?_
  refine g_get (pc := 7) C so_RX4 0 fl_RX4_12 (v := .ref (w.2.1 (128))) rfl dX4_readSnow_7 ?_
  refine g_iconst (pc := 10) (v := 1) C dX4_readSnow_10 kc_1 ?_
  refine g_putI (pc := 11) C (so_RX5 isS128) 0 fp_RX4_33 (se_RX5_0 _) rfl rfl (sl_RX5_0) dX4_readSnow_11 ?_
  refine g_nm (fun h2 => ?_)
  refine g_gets (pc := 14) (j := 3) C (by decide) (by decide) dX4_readSnow_14 ?_
  refine g_iconst (pc := 17) (v := 0) C dX4_readSnow_17 kc_0 ?_
  refine g_aload_n (pc := 18) C 0 rfl dX4_readSnow_18 rfl ?_
  refine g_get (pc := 19) C so_RX4 0 fl_RX4_12 (v := .ref (w.2.1 (128))) rfl dX4_readSnow_19 ?_
  refine g_get (pc := 22) C (so_RX5 isS128) 1 fl_RX4_41 (v := .ref (w.2.1 (128 + 1))) rfl dX4_readSnow_22 ?_
  refine g_iconst (pc := 25) (v := 0) C dX4_readSnow_25 kc_0 ?_
  refine g_iconst (pc := 26) (v := 4) C dX4_readSnow_26 kc_4 ?_
  refine g_copyS (pc := 27) C (by decide) (siS isS128) wm_RX4_44 wna_copy wst_copy wini_sys (by decide) (by decide) (Nat.le_of_ble_eq_true rfl) dX4_readSnow_27 (fun hb3 => ?_)
  refine g_nm (fun h4 => ?_)
  refine g_iconst (pc := 30) (v := 0) C dX4_readSnow_30 kc_0 ?_
  refine g_istore_n (pc := 31) C dX4_readSnow_31 rfl (by decide) (lv' := [(3, .int (0 : Int32)), (0, .ref (w.2.1 (127))), (1, .ref (w.2.1 (o1))), (2, .int x2)]) rfl ?_
  refine g_lv (lv' := [(0, .ref (w.2.1 (127))), (3, .int (0 : Int32))]) [1, 0] rfl ?_
  exact j_X4_readSnow_32 C ho1 KF (0 : Int32) h4
/-- SnowHouse.fault(IZ)I -/
def f_X7_fault (h : TT) (x1 : Int32) (x2 : Int32) : Option (Int32 × TT) := (f_X7_isBelow h x1 (4 : Int32)).bind fun r1 => (if r1 = 0 then some ((-1 : Int32), h) else if inb x1 4 = true then (if 0 ≤ (h.1 14 x1.toNatClampNeg) then (if x2 = 0 then if inb x1 4 = true then if inb x1 4 = true then (f_X4_readSnow h (10 + x1.toNatClampNeg) 80 (h.1 14 x1.toNatClampNeg)).bind fun q8 => some (q8.1, q8.2) else none else none else if inb x1 4 = true then if inb x1 4 = true then (f_X4_readPlan h (10 + x1.toNatClampNeg) 80 (h.1 14 x1.toNatClampNeg)).bind fun q11 => some (q11.1, q11.2) else none else none) else (f_X7_found h (1 : Int32)).bind fun q12 => some (q12.1, q12.2)) else none)
set_option maxRecDepth 20000 in
theorem m_X7_fault {l : Launch} {w : WK} {h : TT} {x1 : Int32} {x2 : Int32} {x : (Int32 × TT)} (hx : f_X7_fault h x1 x2 = some x)  : Met l yX7_fault (Cond.code yX7_fault cX7_fault 3 (some .int) :: wsG) { frames := 6, cells := 0, slots := 0, locals := 127 } (PG w [.ref (w.2.1 (0)), .int x1, .int x2] h) (QG w (fIT x)) 0 0 (AA w) := by
  refine m_entry (own := RX7) (f := fIT) hx (by decide) rfl (Nat.le_of_ble_eq_true rfl) (fun p e s m args below meth c C => ?_)
  show GO p l e _ s m args below meth c w 3 fIT (f_X7_fault h x1 x2) 0 [(0, .ref (w.2.1 (0))), (1, .int x1), (2, .int x2)] [] h
  unfold f_X7_fault
  refine g_iload_n (pc := 0) C 1 rfl dX7_fault_0 rfl ?_
  refine g_iconst (pc := 1) (v := 4) C dX7_fault_1 kc_4 ?_
  refine g_callI (pc := 2) (rest := []) (g_runS C ms_RX7_105 (fun x1 hx1 => m_X7_isBelow hx1) (by decide) rfl rfl (Nat.le_of_ble_eq_true rfl) dX7_fault_2) (fun r1 => ?_)
  refine g_if_ne (pc := 5) (tgt := 10) C dX7_fault_5 (by decide) (fun hc2 => ?_) (fun hc2 => ?_)
  · refine g_iconst (pc := 8) (v := -1) C dX7_fault_8 kc_m1 ?_
    exact g_iretT C dX7_fault_9
  · refine g_aload_n (pc := 10) C 0 rfl dX7_fault_10 rfl ?_
    refine g_get (pc := 11) C so_RX7 3 fl_RX7_29 (v := .ref (w.2.1 (14))) rfl dX7_fault_11 ?_
    refine g_iload_n (pc := 14) C 1 rfl dX7_fault_14 rfl ?_
    refine g_iald (pc := 15) C si_14 dX7_fault_15 (fun hb3 => ?_)
    refine g_if_ge (pc := 16) (tgt := 25) C dX7_fault_16 (by decide) (fun hc4 => ?_) (fun hc4 => ?_)
    · refine g_iload_n (pc := 25) C 2 rfl dX7_fault_25 rfl ?_
      refine g_if_eq (pc := 26) (tgt := 51) C dX7_fault_26 (by decide) (fun hc5 => ?_) (fun hc5 => ?_)
      · refine g_aload_n (pc := 51) C 0 rfl dX7_fault_51 rfl ?_
        refine g_get (pc := 52) C so_RX7 9 fl_RX7_63 (v := .ref (w.2.1 (127))) rfl dX7_fault_52 ?_
        refine g_aload_n (pc := 55) C 0 rfl dX7_fault_55 rfl ?_
        refine g_get (pc := 56) C so_RX7 2 fl_RX7_26 (v := .ref (w.2.1 (9))) rfl dX7_fault_56 ?_
        refine g_iload_n (pc := 59) C 1 rfl dX7_fault_59 rfl ?_
        refine g_aald (pc := 60) (cA := 0) C sr_texts rfl rfl dX7_fault_60 (fun hb6 => ?_)
        refine g_aload_n (pc := 61) C 0 rfl dX7_fault_61 rfl ?_
        refine g_get (pc := 62) C so_RX7 3 fl_RX7_29 (v := .ref (w.2.1 (14))) rfl dX7_fault_62 ?_
        refine g_iload_n (pc := 65) C 1 rfl dX7_fault_65 rfl ?_
        refine g_iald (pc := 66) C si_14 dX7_fault_66 (fun hb7 => ?_)
        refine g_callIT (pc := 67) (rest := []) (g_runV C mv_RX7_133 (fun x1 hx1 => m_X4_readSnow hx1 (sbText hb6)) so_RX4 rfl (by decide) rfl rfl (Nat.le_of_ble_eq_true rfl) dX7_fault_67) (fun q8 => ?_)
        exact g_iretT C dX7_fault_70
      · refine g_aload_n (pc := 29) C 0 rfl dX7_fault_29 rfl ?_
        refine g_get (pc := 30) C so_RX7 9 fl_RX7_63 (v := .ref (w.2.1 (127))) rfl dX7_fault_30 ?_
        refine g_aload_n (pc := 33) C 0 rfl dX7_fault_33 rfl ?_
        refine g_get (pc := 34) C so_RX7 2 fl_RX7_26 (v := .ref (w.2.1 (9))) rfl dX7_fault_34 ?_
        refine g_iload_n (pc := 37) C 1 rfl dX7_fault_37 rfl ?_
        refine g_aald (pc := 38) (cA := 0) C sr_texts rfl rfl dX7_fault_38 (fun hb9 => ?_)
        refine g_aload_n (pc := 39) C 0 rfl dX7_fault_39 rfl ?_
        refine g_get (pc := 40) C so_RX7 3 fl_RX7_29 (v := .ref (w.2.1 (14))) rfl dX7_fault_40 ?_
        refine g_iload_n (pc := 43) C 1 rfl dX7_fault_43 rfl ?_
        refine g_iald (pc := 44) C si_14 dX7_fault_44 (fun hb10 => ?_)
        refine g_callIT (pc := 45) (rest := []) (g_runV C mv_RX7_129 (fun x1 hx1 => m_X4_readPlan hx1 (sbText hb9)) so_RX4 rfl (by decide) rfl rfl (Nat.le_of_ble_eq_true rfl) dX7_fault_45) (fun q11 => ?_)
        refine g_goto (pc := 48) (tgt := 70) C dX7_fault_48 (by decide) ?_
        exact g_iretT C dX7_fault_70
    · refine g_aload_n (pc := 19) C 0 rfl dX7_fault_19 rfl ?_
      refine g_iconst (pc := 20) (v := 1) C dX7_fault_20 kc_1 ?_
      refine g_callIT (pc := 21) (rest := []) (g_runV C mv_RX7_109 (fun x1 hx1 => m_X7_found hx1) so_RX7 rfl (by decide) rfl rfl (Nat.le_of_ble_eq_true rfl) dX7_fault_21) (fun q12 => ?_)
      exact g_iretT C dX7_fault_24
/-- SnowHouse$Snow.takeFrom(LSnowHouse$Snow;)V -/
def f_X5_takeFrom (h : TT) (o0 : Nat) (o1 : Nat) : Option TT := if isZ (h.1 o1 0) = true then nm (wr h o0 0 (h.1 o1 0)) fun h2 => if cpok (0 : Int32) (0 : Int32) (4 : Int32) 4 4 = true then nm (wrow h2 (o0 + 1) (va_cpy (h2.1 (o1 + 1)) (h2.1 (o0 + 1)) (0 : Int32).toNatClampNeg (0 : Int32).toNatClampNeg (4 : Int32).toNatClampNeg)) fun h4 => some h4 else none else none
set_option maxRecDepth 20000 in
theorem m_X5_takeFrom {l : Launch} {w : WK} {h : TT} {o0 : Nat} {o1 : Nat} {x : TT} (hx : f_X5_takeFrom h o0 o1 = some x) (ho0 : IsS o0) (ho1 : IsS o1) : Met l yX5_takeFrom (Cond.code yX5_takeFrom cX5_takeFrom 2 none :: wsG) { frames := 1, cells := 0, slots := 0, locals := 40 } (PG w [.ref (w.2.1 (o0)), .ref (w.2.1 (o1))] h) (QG w (fV x)) 0 0 (AA w) := by
  refine m_entry (own := RX5) (f := fV) hx (by decide) rfl (Nat.le_of_ble_eq_true rfl) (fun p e s m args below meth c C => ?_)
  show GO p l e _ s m args below meth c w 2 fV (f_X5_takeFrom h o0 o1) 0 [(0, .ref (w.2.1 (o0))), (1, .ref (w.2.1 (o1)))] [] h
  unfold f_X5_takeFrom
  refine g_aload_n (pc := 0) C 0 rfl dX5_takeFrom_0 rfl ?_
  refine g_aload_n (pc := 1) C 1 rfl dX5_takeFrom_1 rfl ?_
  refine g_get (pc := 2) C (so_RX5 ho1) 0 fl_RX5_15 (v := .int (h.1 o1 0)) rfl dX5_takeFrom_2 ?_
  refine g_guard (fun hz1 => ?_)
  refine g_putI (pc := 5) C (so_RX5 ho0) 0 fp_RX5_15 (se_RX5_0 _) (isZ_nar hz1) (isZ_fit hz1) (sl_RX5_0) dX5_takeFrom_5 ?_
  refine g_nm (fun h2 => ?_)
  refine g_aload_n (pc := 8) C 1 rfl dX5_takeFrom_8 rfl ?_
  refine g_get (pc := 9) C (so_RX5 ho1) 1 fl_RX5_9 (v := .ref (w.2.1 (o1 + 1))) rfl dX5_takeFrom_9 ?_
  refine g_iconst (pc := 12) (v := 0) C dX5_takeFrom_12 kc_0 ?_
  refine g_aload_n (pc := 13) C 0 rfl dX5_takeFrom_13 rfl ?_
  refine g_get (pc := 14) C (so_RX5 ho0) 1 fl_RX5_9 (v := .ref (w.2.1 (o0 + 1))) rfl dX5_takeFrom_14 ?_
  refine g_iconst (pc := 17) (v := 0) C dX5_takeFrom_17 kc_0 ?_
  refine g_iconst (pc := 18) (v := 4) C dX5_takeFrom_18 kc_4 ?_
  refine g_copy (pc := 19) C (siS ho1) (siS ho0) wm_RX5_19 wna_copy wst_copy wini_sys (by decide) (by decide) (Nat.le_of_ble_eq_true rfl) dX5_takeFrom_19 (fun hb3 => ?_)
  refine g_nm (fun h4 => ?_)
  exact g_vret C dX5_takeFrom_22
/-- SnowHouse.snow(II)I -/
def f_X7_snow (h : TT) (x1 : Int32) (x2 : Int32) : Option (Int32 × TT) := (f_X7_isBelow h x1 (4 : Int32)).bind fun r1 => (if r1 = 0 then some ((-1 : Int32), h) else (f_X7_isBelow h x2 (4 : Int32)).bind fun r3 => (if r3 = 0 then some ((-1 : Int32), h) else if inb x2 4 = true then (if 0 ≤ (h.1 14 x2.toNatClampNeg) then if inb x2 4 = true then if inb x2 4 = true then (f_X4_readSnow h (10 + x2.toNatClampNeg) 80 (h.1 14 x2.toNatClampNeg)).bind fun q9 => (if q9.1 = (-9 : Int32) then if inb x1 4 = true then (f_X5_takeFrom q9.2 (16 + 2 * x1.toNatClampNeg) 128).bind fun h12 => some (h12.1 127 2, h12) else none else some ((-4 : Int32), q9.2)) else none else none else (f_X7_found h (1 : Int32)).bind fun q13 => some (q13.1, q13.2)) else none))
set_option maxRecDepth 20000 in
theorem m_X7_snow {l : Launch} {w : WK} {h : TT} {x1 : Int32} {x2 : Int32} {x : (Int32 × TT)} (hx : f_X7_snow h x1 x2 = some x)  : Met l yX7_snow (Cond.code yX7_snow cX7_snow 3 (some .int) :: wsG) { frames := 6, cells := 0, slots := 0, locals := 126 } (PG w [.ref (w.2.1 (0)), .int x1, .int x2] h) (QG w (fIT x)) 0 0 (AA w) := by
  refine m_entry (own := RX7) (f := fIT) hx (by decide) rfl (Nat.le_of_ble_eq_true rfl) (fun p e s m args below meth c C => ?_)
  show GO p l e _ s m args below meth c w 3 fIT (f_X7_snow h x1 x2) 0 [(0, .ref (w.2.1 (0))), (1, .int x1), (2, .int x2)] [] h
  unfold f_X7_snow
  refine g_iload_n (pc := 0) C 1 rfl dX7_snow_0 rfl ?_
  refine g_iconst (pc := 1) (v := 4) C dX7_snow_1 kc_4 ?_
  refine g_callI (pc := 2) (rest := []) (g_runS C ms_RX7_105 (fun x1 hx1 => m_X7_isBelow hx1) (by decide) rfl rfl (Nat.le_of_ble_eq_true rfl) dX7_snow_2) (fun r1 => ?_)
  refine g_if_eq (pc := 5) (tgt := 16) C dX7_snow_5 (by decide) (fun hc2 => ?_) (fun hc2 => ?_)
  · refine g_iconst (pc := 16) (v := -1) C dX7_snow_16 kc_m1 ?_
    exact g_iretT C dX7_snow_17
  · refine g_iload_n (pc := 8) C 2 rfl dX7_snow_8 rfl ?_
    refine g_iconst (pc := 9) (v := 4) C dX7_snow_9 kc_4 ?_
    refine g_callI (pc := 10) (rest := []) (g_runS C ms_RX7_105 (fun x1 hx1 => m_X7_isBelow hx1) (by decide) rfl rfl (Nat.le_of_ble_eq_true rfl) dX7_snow_10) (fun r3 => ?_)
    refine g_if_ne (pc := 13) (tgt := 18) C dX7_snow_13 (by decide) (fun hc4 => ?_) (fun hc4 => ?_)
    · refine g_iconst (pc := 16) (v := -1) C dX7_snow_16 kc_m1 ?_
      exact g_iretT C dX7_snow_17
    · refine g_aload_n (pc := 18) C 0 rfl dX7_snow_18 rfl ?_
      refine g_get (pc := 19) C so_RX7 3 fl_RX7_29 (v := .ref (w.2.1 (14))) rfl dX7_snow_19 ?_
      refine g_iload_n (pc := 22) C 2 rfl dX7_snow_22 rfl ?_
      refine g_iald (pc := 23) C si_14 dX7_snow_23 (fun hb5 => ?_)
      refine g_if_ge (pc := 24) (tgt := 33) C dX7_snow_24 (by decide) (fun hc6 => ?_) (fun hc6 => ?_)
      · refine g_aload_n (pc := 33) C 0 rfl dX7_snow_33 rfl ?_
        refine g_get (pc := 34) C so_RX7 9 fl_RX7_63 (v := .ref (w.2.1 (127))) rfl dX7_snow_34 ?_
        refine g_aload_n (pc := 37) C 0 rfl dX7_snow_37 rfl ?_
        refine g_get (pc := 38) C so_RX7 2 fl_RX7_26 (v := .ref (w.2.1 (9))) rfl dX7_snow_38 ?_
        refine g_iload_n (pc := 41) C 2 rfl dX7_snow_41 rfl ?_
        refine g_aald (pc := 42) (cA := 0) C sr_texts rfl rfl dX7_snow_42 (fun hb7 => ?_)
        refine g_aload_n (pc := 43) C 0 rfl dX7_snow_43 rfl ?_
        refine g_get (pc := 44) C so_RX7 3 fl_RX7_29 (v := .ref (w.2.1 (14))) rfl dX7_snow_44 ?_
        refine g_iload_n (pc := 47) C 2 rfl dX7_snow_47 rfl ?_
        refine g_iald (pc := 48) C si_14 dX7_snow_48 (fun hb8 => ?_)
        refine g_callIT (pc := 49) (rest := []) (g_runV C mv_RX7_133 (fun x1 hx1 => m_X4_readSnow hx1 (sbText hb7)) so_RX4 rfl (by decide) rfl rfl (Nat.le_of_ble_eq_true rfl) dX7_snow_49) (fun q9 => ?_)
        refine g_bipush (pc := 52) (v := -9) C dX7_snow_52 kb_m9 ?_
        refine g_icmp_eq (pc := 54) (tgt := 60) C dX7_snow_54 (by decide) (fun hc10 => ?_) (fun hc10 => ?_)
        · refine g_aload_n (pc := 60) C 0 rfl dX7_snow_60 rfl ?_
          refine g_get (pc := 61) C so_RX7 4 fl_RX7_34 (v := .ref (w.2.1 (15))) rfl dX7_snow_61 ?_
          refine g_iload_n (pc := 64) C 1 rfl dX7_snow_64 rfl ?_
          refine g_aald (pc := 65) (cA := 0) C sr_snows rfl rfl dX7_snow_65 (fun hb11 => ?_)
          refine g_aload_n (pc := 66) C 0 rfl dX7_snow_66 rfl ?_
          refine g_get (pc := 67) C so_RX7 9 fl_RX7_63 (v := .ref (w.2.1 (127))) rfl dX7_snow_67 ?_
          refine g_get (pc := 70) C so_RX4 0 fl_RX7_136 (v := .ref (w.2.1 (128))) rfl dX7_snow_70 ?_
          refine g_callV (pc := 73) (rest := []) (g_runV C mv_RX7_140 (fun x1 hx1 => m_X5_takeFrom hx1 (isSn hb11) isS128) (so_RX5 (isSn hb11)) rfl (by decide) rfl rfl (Nat.le_of_ble_eq_true rfl) dX7_snow_73) (fun h12 => ?_)
          refine g_aload_n (pc := 76) C 0 rfl dX7_snow_76 rfl ?_
          refine g_get (pc := 77) C so_RX7 9 fl_RX7_63 (v := .ref (w.2.1 (127))) rfl dX7_snow_77 ?_
          refine g_get (pc := 80) C so_RX4 2 fl_RX7_144 (v := .int (h12.1 127 2)) rfl dX7_snow_80 ?_
          exact g_iretT C dX7_snow_83
        · refine g_bipush (pc := 57) (v := -4) C dX7_snow_57 kb_m4 ?_
          exact g_iretT C dX7_snow_59
      · refine g_aload_n (pc := 27) C 0 rfl dX7_snow_27 rfl ?_
        refine g_iconst (pc := 28) (v := 1) C dX7_snow_28 kc_1 ?_
        refine g_callIT (pc := 29) (rest := []) (g_runV C mv_RX7_109 (fun x1 hx1 => m_X7_found hx1) so_RX7 rfl (by decide) rfl rfl (Nat.le_of_ble_eq_true rfl) dX7_snow_29) (fun q13 => ?_)
        exact g_iretT C dX7_snow_32
/-- SnowHouse$Plan.takeFrom(LSnowHouse$Plan;)V -/
def f_X3_takeFrom (h : TT) (o0 : Nat) (o1 : Nat) : Option TT := if isZ (h.1 o1 0) = true then nm (wr h o0 0 (h.1 o1 0)) fun h2 => nm (wr h2 o0 1 (h2.1 o1 1)) fun h3 => nm (wr h3 o0 2 (h3.1 o1 2)) fun h4 => nm (wr h4 o0 3 (h4.1 o1 3)) fun h5 => if cpok (0 : Int32) (0 : Int32) (8 : Int32) 8 8 = true then nm (wrow h5 (o0 + 1) (va_cpy (h5.1 (o1 + 1)) (h5.1 (o0 + 1)) (0 : Int32).toNatClampNeg (0 : Int32).toNatClampNeg (8 : Int32).toNatClampNeg)) fun h7 => if cpok (0 : Int32) (0 : Int32) (8 : Int32) 8 8 = true then nm (wrow h7 (o0 + 2) (va_cpy (h7.1 (o1 + 2)) (h7.1 (o0 + 2)) (0 : Int32).toNatClampNeg (0 : Int32).toNatClampNeg (8 : Int32).toNatClampNeg)) fun h9 => if cpok (0 : Int32) (0 : Int32) (8 : Int32) 8 8 = true then nm (wrow h9 (o0 + 3) (va_cpy (h9.1 (o1 + 3)) (h9.1 (o0 + 3)) (0 : Int32).toNatClampNeg (0 : Int32).toNatClampNeg (8 : Int32).toNatClampNeg)) fun h11 => some h11 else none else none else none else none
set_option maxRecDepth 20000 in
theorem m_X3_takeFrom {l : Launch} {w : WK} {h : TT} {o0 : Nat} {o1 : Nat} {x : TT} (hx : f_X3_takeFrom h o0 o1 = some x) (ho0 : IsP o0) (ho1 : IsP o1) : Met l yX3_takeFrom (Cond.code yX3_takeFrom cX3_takeFrom 2 none :: wsG) { frames := 1, cells := 0, slots := 0, locals := 40 } (PG w [.ref (w.2.1 (o0)), .ref (w.2.1 (o1))] h) (QG w (fV x)) 0 0 (AA w) := by
  refine m_entry (own := RX3) (f := fV) hx (by decide) rfl (Nat.le_of_ble_eq_true rfl) (fun p e s m args below meth c C => ?_)
  show GO p l e _ s m args below meth c w 2 fV (f_X3_takeFrom h o0 o1) 0 [(0, .ref (w.2.1 (o0))), (1, .ref (w.2.1 (o1)))] [] h
  unfold f_X3_takeFrom
  refine g_aload_n (pc := 0) C 0 rfl dX3_takeFrom_0 rfl ?_
  refine g_aload_n (pc := 1) C 1 rfl dX3_takeFrom_1 rfl ?_
  refine g_get (pc := 2) C (so_RX3 ho1) 0 fl_RX3_21 (v := .int (h.1 o1 0)) rfl dX3_takeFrom_2 ?_
  refine g_guard (fun hz1 => ?_)
  refine g_putI (pc := 5) C (so_RX3 ho0) 0 fp_RX3_21 (se_RX3_0 _) (isZ_nar hz1) (isZ_fit hz1) (sl_RX3_0) dX3_takeFrom_5 ?_
  refine g_nm (fun h2 => ?_)
  refine g_aload_n (pc := 8) C 0 rfl dX3_takeFrom_8 rfl ?_
  refine g_aload_n (pc := 9) C 1 rfl dX3_takeFrom_9 rfl ?_
  refine g_get (pc := 10) C (so_RX3 ho1) 1 fl_RX3_25 (v := .int (h2.1 o1 1)) rfl dX3_takeFrom_10 ?_
  refine g_putI (pc := 13) C (so_RX3 ho0) 1 fp_RX3_25 (se_RX3_1 _) rfl rfl (sl_RX3_1) dX3_takeFrom_13 ?_
  refine g_nm (fun h3 => ?_)
  refine g_aload_n (pc := 16) C 0 rfl dX3_takeFrom_16 rfl ?_
  refine g_aload_n (pc := 17) C 1 rfl dX3_takeFrom_17 rfl ?_
  refine g_get (pc := 18) C (so_RX3 ho1) 2 fl_RX3_29 (v := .int (h3.1 o1 2)) rfl dX3_takeFrom_18 ?_
  refine g_putI (pc := 21) C (so_RX3 ho0) 2 fp_RX3_29 (se_RX3_2 _) rfl rfl (sl_RX3_2) dX3_takeFrom_21 ?_
  refine g_nm (fun h4 => ?_)
  refine g_aload_n (pc := 24) C 0 rfl dX3_takeFrom_24 rfl ?_
  refine g_aload_n (pc := 25) C 1 rfl dX3_takeFrom_25 rfl ?_
  refine g_get (pc := 26) C (so_RX3 ho1) 3 fl_RX3_32 (v := .int (h4.1 o1 3)) rfl dX3_takeFrom_26 ?_
  refine g_putI (pc := 29) C (so_RX3 ho0) 3 fp_RX3_32 (se_RX3_3 _) rfl rfl (sl_RX3_3) dX3_takeFrom_29 ?_
  refine g_nm (fun h5 => ?_)
  refine g_aload_n (pc := 32) C 1 rfl dX3_takeFrom_32 rfl ?_
  refine g_get (pc := 33) C (so_RX3 ho1) 4 fl_RX3_9 (v := .ref (w.2.1 (o1 + 1))) rfl dX3_takeFrom_33 ?_
  refine g_iconst (pc := 36) (v := 0) C dX3_takeFrom_36 kc_0 ?_
  refine g_aload_n (pc := 37) C 0 rfl dX3_takeFrom_37 rfl ?_
  refine g_get (pc := 38) C (so_RX3 ho0) 4 fl_RX3_9 (v := .ref (w.2.1 (o0 + 1))) rfl dX3_takeFrom_38 ?_
  refine g_iconst (pc := 41) (v := 0) C dX3_takeFrom_41 kc_0 ?_
  refine g_bipush (pc := 42) (v := 8) C dX3_takeFrom_42 kb_8 ?_
  refine g_copy (pc := 44) C (siP1 ho1) (siP1 ho0) wm_RX3_35 wna_copy wst_copy wini_sys (by decide) (by decide) (Nat.le_of_ble_eq_true rfl) dX3_takeFrom_44 (fun hb6 => ?_)
  refine g_nm (fun h7 => ?_)
  refine g_aload_n (pc := 47) C 1 rfl dX3_takeFrom_47 rfl ?_
  refine g_get (pc := 48) C (so_RX3 ho1) 5 fl_RX3_15 (v := .ref (w.2.1 (o1 + 2))) rfl dX3_takeFrom_48 ?_
  refine g_iconst (pc := 51) (v := 0) C dX3_takeFrom_51 kc_0 ?_
  refine g_aload_n (pc := 52) C 0 rfl dX3_takeFrom_52 rfl ?_
  refine g_get (pc := 53) C (so_RX3 ho0) 5 fl_RX3_15 (v := .ref (w.2.1 (o0 + 2))) rfl dX3_takeFrom_53 ?_
  refine g_iconst (pc := 56) (v := 0) C dX3_takeFrom_56 kc_0 ?_
  refine g_bipush (pc := 57) (v := 8) C dX3_takeFrom_57 kb_8 ?_
  refine g_copy (pc := 59) C (siP2 ho1) (siP2 ho0) wm_RX3_35 wna_copy wst_copy wini_sys (by decide) (by decide) (Nat.le_of_ble_eq_true rfl) dX3_takeFrom_59 (fun hb8 => ?_)
  refine g_nm (fun h9 => ?_)
  refine g_aload_n (pc := 62) C 1 rfl dX3_takeFrom_62 rfl ?_
  refine g_get (pc := 63) C (so_RX3 ho1) 6 fl_RX3_18 (v := .ref (w.2.1 (o1 + 3))) rfl dX3_takeFrom_63 ?_
  refine g_iconst (pc := 66) (v := 0) C dX3_takeFrom_66 kc_0 ?_
  refine g_aload_n (pc := 67) C 0 rfl dX3_takeFrom_67 rfl ?_
  refine g_get (pc := 68) C (so_RX3 ho0) 6 fl_RX3_18 (v := .ref (w.2.1 (o0 + 3))) rfl dX3_takeFrom_68 ?_
  refine g_iconst (pc := 71) (v := 0) C dX3_takeFrom_71 kc_0 ?_
  refine g_bipush (pc := 72) (v := 8) C dX3_takeFrom_72 kb_8 ?_
  refine g_copy (pc := 74) C (siP3 ho1) (siP3 ho0) wm_RX3_35 wna_copy wst_copy wini_sys (by decide) (by decide) (Nat.le_of_ble_eq_true rfl) dX3_takeFrom_74 (fun hb10 => ?_)
  refine g_nm (fun h11 => ?_)
  exact g_vret C dX3_takeFrom_77
/-- SnowHouse.plan(II)I -/
def f_X7_plan (h : TT) (x1 : Int32) (x2 : Int32) : Option (Int32 × TT) := (f_X7_isBelow h x1 (4 : Int32)).bind fun r1 => (if r1 = 0 then some ((-1 : Int32), h) else (f_X7_isBelow h x2 (4 : Int32)).bind fun r3 => (if r3 = 0 then some ((-1 : Int32), h) else if inb x2 4 = true then (if 0 ≤ (h.1 14 x2.toNatClampNeg) then if inb x2 4 = true then if inb x2 4 = true then (f_X4_readPlan h (10 + x2.toNatClampNeg) 80 (h.1 14 x2.toNatClampNeg)).bind fun q9 => (if q9.1 = (-9 : Int32) then if inb x1 4 = true then (f_X3_takeFrom q9.2 (25 + 4 * x1.toNatClampNeg) 130).bind fun h12 => if inb x1 4 = true then some (h12.1 (25 + 4 * x1.toNatClampNeg) 2, h12) else none else none else some ((-4 : Int32), q9.2)) else none else none else (f_X7_found h (1 : Int32)).bind fun q14 => some (q14.1, q14.2)) else none))
set_option maxRecDepth 20000 in
theorem m_X7_plan {l : Launch} {w : WK} {h : TT} {x1 : Int32} {x2 : Int32} {x : (Int32 × TT)} (hx : f_X7_plan h x1 x2 = some x)  : Met l yX7_plan (Cond.code yX7_plan cX7_plan 3 (some .int) :: wsG) { frames := 6, cells := 0, slots := 0, locals := 127 } (PG w [.ref (w.2.1 (0)), .int x1, .int x2] h) (QG w (fIT x)) 0 0 (AA w) := by
  refine m_entry (own := RX7) (f := fIT) hx (by decide) rfl (Nat.le_of_ble_eq_true rfl) (fun p e s m args below meth c C => ?_)
  show GO p l e _ s m args below meth c w 3 fIT (f_X7_plan h x1 x2) 0 [(0, .ref (w.2.1 (0))), (1, .int x1), (2, .int x2)] [] h
  unfold f_X7_plan
  refine g_iload_n (pc := 0) C 1 rfl dX7_plan_0 rfl ?_
  refine g_iconst (pc := 1) (v := 4) C dX7_plan_1 kc_4 ?_
  refine g_callI (pc := 2) (rest := []) (g_runS C ms_RX7_105 (fun x1 hx1 => m_X7_isBelow hx1) (by decide) rfl rfl (Nat.le_of_ble_eq_true rfl) dX7_plan_2) (fun r1 => ?_)
  refine g_if_eq (pc := 5) (tgt := 16) C dX7_plan_5 (by decide) (fun hc2 => ?_) (fun hc2 => ?_)
  · refine g_iconst (pc := 16) (v := -1) C dX7_plan_16 kc_m1 ?_
    exact g_iretT C dX7_plan_17
  · refine g_iload_n (pc := 8) C 2 rfl dX7_plan_8 rfl ?_
    refine g_iconst (pc := 9) (v := 4) C dX7_plan_9 kc_4 ?_
    refine g_callI (pc := 10) (rest := []) (g_runS C ms_RX7_105 (fun x1 hx1 => m_X7_isBelow hx1) (by decide) rfl rfl (Nat.le_of_ble_eq_true rfl) dX7_plan_10) (fun r3 => ?_)
    refine g_if_ne (pc := 13) (tgt := 18) C dX7_plan_13 (by decide) (fun hc4 => ?_) (fun hc4 => ?_)
    · refine g_iconst (pc := 16) (v := -1) C dX7_plan_16 kc_m1 ?_
      exact g_iretT C dX7_plan_17
    · refine g_aload_n (pc := 18) C 0 rfl dX7_plan_18 rfl ?_
      refine g_get (pc := 19) C so_RX7 3 fl_RX7_29 (v := .ref (w.2.1 (14))) rfl dX7_plan_19 ?_
      refine g_iload_n (pc := 22) C 2 rfl dX7_plan_22 rfl ?_
      refine g_iald (pc := 23) C si_14 dX7_plan_23 (fun hb5 => ?_)
      refine g_if_ge (pc := 24) (tgt := 33) C dX7_plan_24 (by decide) (fun hc6 => ?_) (fun hc6 => ?_)
      · refine g_aload_n (pc := 33) C 0 rfl dX7_plan_33 rfl ?_
        refine g_get (pc := 34) C so_RX7 9 fl_RX7_63 (v := .ref (w.2.1 (127))) rfl dX7_plan_34 ?_
        refine g_aload_n (pc := 37) C 0 rfl dX7_plan_37 rfl ?_
        refine g_get (pc := 38) C so_RX7 2 fl_RX7_26 (v := .ref (w.2.1 (9))) rfl dX7_plan_38 ?_
        refine g_iload_n (pc := 41) C 2 rfl dX7_plan_41 rfl ?_
        refine g_aald (pc := 42) (cA := 0) C sr_texts rfl rfl dX7_plan_42 (fun hb7 => ?_)
        refine g_aload_n (pc := 43) C 0 rfl dX7_plan_43 rfl ?_
        refine g_get (pc := 44) C so_RX7 3 fl_RX7_29 (v := .ref (w.2.1 (14))) rfl dX7_plan_44 ?_
        refine g_iload_n (pc := 47) C 2 rfl dX7_plan_47 rfl ?_
        refine g_iald (pc := 48) C si_14 dX7_plan_48 (fun hb8 => ?_)
        refine g_callIT (pc := 49) (rest := []) (g_runV C mv_RX7_129 (fun x1 hx1 => m_X4_readPlan hx1 (sbText hb7)) so_RX4 rfl (by decide) rfl rfl (Nat.le_of_ble_eq_true rfl) dX7_plan_49) (fun q9 => ?_)
        refine g_bipush (pc := 52) (v := -9) C dX7_plan_52 kb_m9 ?_
        refine g_icmp_eq (pc := 54) (tgt := 60) C dX7_plan_54 (by decide) (fun hc10 => ?_) (fun hc10 => ?_)
        · refine g_aload_n (pc := 60) C 0 rfl dX7_plan_60 rfl ?_
          refine g_get (pc := 61) C so_RX7 5 fl_RX7_41 (v := .ref (w.2.1 (24))) rfl dX7_plan_61 ?_
          refine g_iload_n (pc := 64) C 1 rfl dX7_plan_64 rfl ?_
          refine g_aald (pc := 65) (cA := 0) C sr_plans rfl rfl dX7_plan_65 (fun hb11 => ?_)
          refine g_aload_n (pc := 66) C 0 rfl dX7_plan_66 rfl ?_
          refine g_get (pc := 67) C so_RX7 9 fl_RX7_63 (v := .ref (w.2.1 (127))) rfl dX7_plan_67 ?_
          refine g_get (pc := 70) C so_RX4 1 fl_RX7_147 (v := .ref (w.2.1 (130))) rfl dX7_plan_70 ?_
          refine g_callV (pc := 73) (rest := []) (g_runV C mv_RX7_151 (fun x1 hx1 => m_X3_takeFrom hx1 (isPl hb11) isP130) (so_RX3 (isPl hb11)) rfl (by decide) rfl rfl (Nat.le_of_ble_eq_true rfl) dX7_plan_73) (fun h12 => ?_)
          refine g_aload_n (pc := 76) C 0 rfl dX7_plan_76 rfl ?_
          refine g_get (pc := 77) C so_RX7 5 fl_RX7_41 (v := .ref (w.2.1 (24))) rfl dX7_plan_77 ?_
          refine g_iload_n (pc := 80) C 1 rfl dX7_plan_80 rfl ?_
          refine g_aald (pc := 81) (cA := 0) C sr_plans rfl rfl dX7_plan_81 (fun hb13 => ?_)
          refine g_get (pc := 82) C (so_RX3 (isPl hb13)) 2 fl_RX7_154 (v := .int (h12.1 (25 + 4 * x1.toNatClampNeg) 2)) rfl dX7_plan_82 ?_
          exact g_iretT C dX7_plan_85
        · refine g_bipush (pc := 57) (v := -4) C dX7_plan_57 kb_m4 ?_
          exact g_iretT C dX7_plan_59
      · refine g_aload_n (pc := 27) C 0 rfl dX7_plan_27 rfl ?_
        refine g_iconst (pc := 28) (v := 1) C dX7_plan_28 kc_1 ?_
        refine g_callIT (pc := 29) (rest := []) (g_runV C mv_RX7_109 (fun x1 hx1 => m_X7_found hx1) so_RX7 rfl (by decide) rfl rfl (Nat.le_of_ble_eq_true rfl) dX7_plan_29) (fun q14 => ?_)
        exact g_iretT C dX7_plan_32
/-- SnowHouse.about(II)I -/
def f_X7_about (h : TT) (x1 : Int32) (x2 : Int32) : Option (Int32 × TT) := (f_X7_isBelow h x1 (4 : Int32)).bind fun r1 => (if r1 = 0 then some ((-1 : Int32), h) else (f_X7_isBelow h x2 (4 : Int32)).bind fun r3 => (if r3 = 0 then some ((-1 : Int32), h) else if inb x1 4 = true then (if (h.1 (16 + 2 * x1.toNatClampNeg) 0) = 0 then (f_X7_found h (1 : Int32)).bind fun q7 => some (q7.1, q7.2) else if inb x1 4 = true then if inb x2 4 = true then (f_X7_tell h (h.1 (16 + 2 * x1.toNatClampNeg + 1) x2.toNatClampNeg)).bind fun q10 => some (q10.1, q10.2) else none else none) else none))
set_option maxRecDepth 20000 in
theorem m_X7_about {l : Launch} {w : WK} {h : TT} {x1 : Int32} {x2 : Int32} {x : (Int32 × TT)} (hx : f_X7_about h x1 x2 = some x)  : Met l yX7_about (Cond.code yX7_about cX7_about 3 (some .int) :: wsG) { frames := 2, cells := 0, slots := 0, locals := 42 } (PG w [.ref (w.2.1 (0)), .int x1, .int x2] h) (QG w (fIT x)) 0 0 (AA w) := by
  refine m_entry (own := RX7) (f := fIT) hx (by decide) rfl (Nat.le_of_ble_eq_true rfl) (fun p e s m args below meth c C => ?_)
  show GO p l e _ s m args below meth c w 3 fIT (f_X7_about h x1 x2) 0 [(0, .ref (w.2.1 (0))), (1, .int x1), (2, .int x2)] [] h
  unfold f_X7_about
  refine g_iload_n (pc := 0) C 1 rfl dX7_about_0 rfl ?_
  refine g_iconst (pc := 1) (v := 4) C dX7_about_1 kc_4 ?_
  refine g_callI (pc := 2) (rest := []) (g_runS C ms_RX7_105 (fun x1 hx1 => m_X7_isBelow hx1) (by decide) rfl rfl (Nat.le_of_ble_eq_true rfl) dX7_about_2) (fun r1 => ?_)
  refine g_if_eq (pc := 5) (tgt := 16) C dX7_about_5 (by decide) (fun hc2 => ?_) (fun hc2 => ?_)
  · refine g_iconst (pc := 16) (v := -1) C dX7_about_16 kc_m1 ?_
    exact g_iretT C dX7_about_17
  · refine g_iload_n (pc := 8) C 2 rfl dX7_about_8 rfl ?_
    refine g_iconst (pc := 9) (v := 4) C dX7_about_9 kc_4 ?_
    refine g_callI (pc := 10) (rest := []) (g_runS C ms_RX7_105 (fun x1 hx1 => m_X7_isBelow hx1) (by decide) rfl rfl (Nat.le_of_ble_eq_true rfl) dX7_about_10) (fun r3 => ?_)
    refine g_if_ne (pc := 13) (tgt := 18) C dX7_about_13 (by decide) (fun hc4 => ?_) (fun hc4 => ?_)
    · refine g_iconst (pc := 16) (v := -1) C dX7_about_16 kc_m1 ?_
      exact g_iretT C dX7_about_17
    · refine g_aload_n (pc := 18) C 0 rfl dX7_about_18 rfl ?_
      refine g_get (pc := 19) C so_RX7 4 fl_RX7_34 (v := .ref (w.2.1 (15))) rfl dX7_about_19 ?_
      refine g_iload_n (pc := 22) C 1 rfl dX7_about_22 rfl ?_
      refine g_aald (pc := 23) (cA := 0) C sr_snows rfl rfl dX7_about_23 (fun hb5 => ?_)
      refine g_get (pc := 24) C (so_RX5 (isSn hb5)) 0 fl_RX7_157 (v := .int (h.1 (16 + 2 * x1.toNatClampNeg) 0)) rfl dX7_about_24 ?_
      refine g_if_ne (pc := 27) (tgt := 36) C dX7_about_27 (by decide) (fun hc6 => ?_) (fun hc6 => ?_)
      · refine g_aload_n (pc := 30) C 0 rfl dX7_about_30 rfl ?_
        refine g_iconst (pc := 31) (v := 1) C dX7_about_31 kc_1 ?_
        refine g_callIT (pc := 32) (rest := []) (g_runV C mv_RX7_109 (fun x1 hx1 => m_X7_found hx1) so_RX7 rfl (by decide) rfl rfl (Nat.le_of_ble_eq_true rfl) dX7_about_32) (fun q7 => ?_)
        exact g_iretT C dX7_about_35
      · refine g_aload_n (pc := 36) C 0 rfl dX7_about_36 rfl ?_
        refine g_aload_n (pc := 37) C 0 rfl dX7_about_37 rfl ?_
        refine g_get (pc := 38) C so_RX7 4 fl_RX7_34 (v := .ref (w.2.1 (15))) rfl dX7_about_38 ?_
        refine g_iload_n (pc := 41) C 1 rfl dX7_about_41 rfl ?_
        refine g_aald (pc := 42) (cA := 0) C sr_snows rfl rfl dX7_about_42 (fun hb8 => ?_)
        refine g_get (pc := 43) C (so_RX5 (isSn hb8)) 1 fl_RX7_161 (v := .ref (w.2.1 (16 + 2 * x1.toNatClampNeg + 1))) rfl dX7_about_43 ?_
        refine g_iload_n (pc := 46) C 2 rfl dX7_about_46 rfl ?_
        refine g_iald (pc := 47) C (siS (isSn hb8)) dX7_about_47 (fun hb9 => ?_)
        refine g_callIT (pc := 48) (rest := []) (g_runV C mv_RX7_113 (fun x1 hx1 => m_X7_tell hx1) so_RX7 rfl (by decide) rfl rfl (Nat.le_of_ble_eq_true rfl) dX7_about_48) (fun q10 => ?_)
        exact g_iretT C dX7_about_51
/-- SnowHouse$Plan.sleepers()I -/
def f_X3_sleepers (h : TT) (o0 : Nat) : Option Int32 := if inb (0 : Int32) 8 = true then some ((h.1 (o0 + 2) (0 : Int32).toNatClampNeg) / (2 : Int32)) else none
set_option maxRecDepth 20000 in
theorem m_X3_sleepers {l : Launch} {w : WK} {h : TT} {o0 : Nat} {x : Int32} (hx : f_X3_sleepers h o0 = some x) (ho0 : IsP o0) : Met l yX3_sleepers (Cond.code yX3_sleepers cX3_sleepers 1 (some .int) :: wsG) { frames := 0, cells := 0, slots := 0, locals := 0 } (PG w [.ref (w.2.1 (o0))] h) (QG w ((fI h) x)) 0 0 (AA w) := by
  refine m_entry (own := RX3) (f := (fI h)) hx (by decide) rfl (Nat.le_of_ble_eq_true rfl) (fun p e s m args below meth c C => ?_)
  show GO p l e _ s m args below meth c w 1 (fI h) (f_X3_sleepers h o0) 0 [(0, .ref (w.2.1 (o0)))] [] h
  unfold f_X3_sleepers
  refine g_aload_n (pc := 0) C 0 rfl dX3_sleepers_0 rfl ?_
  refine g_get (pc := 1) C (so_RX3 ho0) 5 fl_RX3_15 (v := .ref (w.2.1 (o0 + 2))) rfl dX3_sleepers_1 ?_
  refine g_iconst (pc := 4) (v := 0) C dX3_sleepers_4 kc_0 ?_
  refine g_iald (pc := 5) C (siP2 ho0) dX3_sleepers_5 (fun hb1 => ?_)
  refine g_iconst (pc := 6) (v := 2) C dX3_sleepers_6 kc_2 ?_
  refine g_idiv (pc := 7) C dX3_sleepers_7 (by decide) ?_
  exact g_iret C dX3_sleepers_8
/-- SnowHouse$Plan.fact(I)I -/
def f_X3_fact (h : TT) (o0 : Nat) (x1 : Int32) : Option Int32 := (if x1 = (0 : Int32) then some (h.1 o0 1) else (if x1 = (1 : Int32) then some (h.1 o0 3) else (if x1 = (2 : Int32) then some (h.1 o0 2) else (f_X3_sleepers h o0).bind fun r4 => some r4)))
set_option maxRecDepth 20000 in
theorem m_X3_fact {l : Launch} {w : WK} {h : TT} {o0 : Nat} {x1 : Int32} {x : Int32} (hx : f_X3_fact h o0 x1 = some x) (ho0 : IsP o0) : Met l yX3_fact (Cond.code yX3_fact cX3_fact 2 (some .int) :: wsG) { frames := 1, cells := 0, slots := 0, locals := 20 } (PG w [.ref (w.2.1 (o0)), .int x1] h) (QG w ((fI h) x)) 0 0 (AA w) := by
  refine m_entry (own := RX3) (f := (fI h)) hx (by decide) rfl (Nat.le_of_ble_eq_true rfl) (fun p e s m args below meth c C => ?_)
  show GO p l e _ s m args below meth c w 2 (fI h) (f_X3_fact h o0 x1) 0 [(0, .ref (w.2.1 (o0))), (1, .int x1)] [] h
  unfold f_X3_fact
  refine g_iload_n (pc := 0) C 1 rfl dX3_fact_0 rfl ?_
  refine g_ite (fun hc1 => ?_) (fun hc1 => ?_)
  · refine g_tabIn (pc := 1) (tgt := 28) C dX3_fact_1 hc1 (by decide) (by decide) rfl (by decide) ?_
    refine g_aload_n (pc := 28) C 0 rfl dX3_fact_28 rfl ?_
    refine g_get (pc := 29) C (so_RX3 ho0) 1 fl_RX3_25 (v := .int (h.1 o0 1)) rfl dX3_fact_29 ?_
    exact g_iret C dX3_fact_32
  refine g_ite (fun hc2 => ?_) (fun hc2 => ?_)
  · refine g_tabIn (pc := 1) (tgt := 33) C dX3_fact_1 hc2 (by decide) (by decide) rfl (by decide) ?_
    refine g_aload_n (pc := 33) C 0 rfl dX3_fact_33 rfl ?_
    refine g_get (pc := 34) C (so_RX3 ho0) 3 fl_RX3_32 (v := .int (h.1 o0 3)) rfl dX3_fact_34 ?_
    exact g_iret C dX3_fact_37
  refine g_ite (fun hc3 => ?_) (fun hc3 => ?_)
  · refine g_tabIn (pc := 1) (tgt := 38) C dX3_fact_1 hc3 (by decide) (by decide) rfl (by decide) ?_
    refine g_aload_n (pc := 38) C 0 rfl dX3_fact_38 rfl ?_
    refine g_get (pc := 39) C (so_RX3 ho0) 2 fl_RX3_29 (v := .int (h.1 o0 2)) rfl dX3_fact_39 ?_
    exact g_iret C dX3_fact_42
  refine g_tabOut (pc := 1) (tgt := 43) C dX3_fact_1 (tab_out (by decide) (by decide) (fun j h1 h2 => ?_)) (by decide) ?_
  · rcases tab_0_2 h1 h2 with e | e | e <;> subst e <;> assumption
  · refine g_aload_n (pc := 43) C 0 rfl dX3_fact_43 rfl ?_
    refine g_callI (pc := 44) (rest := []) (g_runV C mv_RX3_45 (fun x1 hx1 => m_X3_sleepers hx1 ho0) (so_RX3 ho0) rfl (by decide) rfl rfl (Nat.le_of_ble_eq_true rfl) dX3_fact_44) (fun r4 => ?_)
    exact g_iret C dX3_fact_47
/-- SnowHouse.tells(II)I -/
def f_X7_tells (h : TT) (x1 : Int32) (x2 : Int32) : Option (Int32 × TT) := (f_X7_isBelow h x1 (4 : Int32)).bind fun r1 => (if r1 = 0 then some ((-1 : Int32), h) else (f_X7_isBelow h x2 (4 : Int32)).bind fun r3 => (if r3 = 0 then some ((-1 : Int32), h) else if inb x1 4 = true then (if (h.1 (25 + 4 * x1.toNatClampNeg) 0) = 0 then (f_X7_found h (1 : Int32)).bind fun q7 => some (q7.1, q7.2) else if inb x1 4 = true then (f_X3_fact h (25 + 4 * x1.toNatClampNeg) x2).bind fun r9 => (f_X7_tell h r9).bind fun q10 => some (q10.1, q10.2) else none) else none))
set_option maxRecDepth 20000 in
theorem m_X7_tells {l : Launch} {w : WK} {h : TT} {x1 : Int32} {x2 : Int32} {x : (Int32 × TT)} (hx : f_X7_tells h x1 x2 = some x)  : Met l yX7_tells (Cond.code yX7_tells cX7_tells 3 (some .int) :: wsG) { frames := 2, cells := 0, slots := 0, locals := 42 } (PG w [.ref (w.2.1 (0)), .int x1, .int x2] h) (QG w (fIT x)) 0 0 (AA w) := by
  refine m_entry (own := RX7) (f := fIT) hx (by decide) rfl (Nat.le_of_ble_eq_true rfl) (fun p e s m args below meth c C => ?_)
  show GO p l e _ s m args below meth c w 3 fIT (f_X7_tells h x1 x2) 0 [(0, .ref (w.2.1 (0))), (1, .int x1), (2, .int x2)] [] h
  unfold f_X7_tells
  refine g_iload_n (pc := 0) C 1 rfl dX7_tells_0 rfl ?_
  refine g_iconst (pc := 1) (v := 4) C dX7_tells_1 kc_4 ?_
  refine g_callI (pc := 2) (rest := []) (g_runS C ms_RX7_105 (fun x1 hx1 => m_X7_isBelow hx1) (by decide) rfl rfl (Nat.le_of_ble_eq_true rfl) dX7_tells_2) (fun r1 => ?_)
  refine g_if_eq (pc := 5) (tgt := 16) C dX7_tells_5 (by decide) (fun hc2 => ?_) (fun hc2 => ?_)
  · refine g_iconst (pc := 16) (v := -1) C dX7_tells_16 kc_m1 ?_
    exact g_iretT C dX7_tells_17
  · refine g_iload_n (pc := 8) C 2 rfl dX7_tells_8 rfl ?_
    refine g_iconst (pc := 9) (v := 4) C dX7_tells_9 kc_4 ?_
    refine g_callI (pc := 10) (rest := []) (g_runS C ms_RX7_105 (fun x1 hx1 => m_X7_isBelow hx1) (by decide) rfl rfl (Nat.le_of_ble_eq_true rfl) dX7_tells_10) (fun r3 => ?_)
    refine g_if_ne (pc := 13) (tgt := 18) C dX7_tells_13 (by decide) (fun hc4 => ?_) (fun hc4 => ?_)
    · refine g_iconst (pc := 16) (v := -1) C dX7_tells_16 kc_m1 ?_
      exact g_iretT C dX7_tells_17
    · refine g_aload_n (pc := 18) C 0 rfl dX7_tells_18 rfl ?_
      refine g_get (pc := 19) C so_RX7 5 fl_RX7_41 (v := .ref (w.2.1 (24))) rfl dX7_tells_19 ?_
      refine g_iload_n (pc := 22) C 1 rfl dX7_tells_22 rfl ?_
      refine g_aald (pc := 23) (cA := 0) C sr_plans rfl rfl dX7_tells_23 (fun hb5 => ?_)
      refine g_get (pc := 24) C (so_RX3 (isPl hb5)) 0 fl_RX7_164 (v := .int (h.1 (25 + 4 * x1.toNatClampNeg) 0)) rfl dX7_tells_24 ?_
      refine g_if_ne (pc := 27) (tgt := 36) C dX7_tells_27 (by decide) (fun hc6 => ?_) (fun hc6 => ?_)
      · refine g_aload_n (pc := 30) C 0 rfl dX7_tells_30 rfl ?_
        refine g_iconst (pc := 31) (v := 1) C dX7_tells_31 kc_1 ?_
        refine g_callIT (pc := 32) (rest := []) (g_runV C mv_RX7_109 (fun x1 hx1 => m_X7_found hx1) so_RX7 rfl (by decide) rfl rfl (Nat.le_of_ble_eq_true rfl) dX7_tells_32) (fun q7 => ?_)
        exact g_iretT C dX7_tells_35
      · refine g_aload_n (pc := 36) C 0 rfl dX7_tells_36 rfl ?_
        refine g_aload_n (pc := 37) C 0 rfl dX7_tells_37 rfl ?_
        refine g_get (pc := 38) C so_RX7 5 fl_RX7_41 (v := .ref (w.2.1 (24))) rfl dX7_tells_38 ?_
        refine g_iload_n (pc := 41) C 1 rfl dX7_tells_41 rfl ?_
        refine g_aald (pc := 42) (cA := 0) C sr_plans rfl rfl dX7_tells_42 (fun hb8 => ?_)
        refine g_iload_n (pc := 43) C 2 rfl dX7_tells_43 rfl ?_
        refine g_callI (pc := 44) (rest := [.ref (w.2.1 (0))]) (g_runV C mv_RX7_165 (fun x1 hx1 => m_X3_fact hx1 (isPl hb8)) (so_RX3 (isPl hb8)) rfl (by decide) rfl rfl (Nat.le_of_ble_eq_true rfl) dX7_tells_44) (fun r9 => ?_)
        refine g_callIT (pc := 47) (rest := []) (g_runV C mv_RX7_113 (fun x1 hx1 => m_X7_tell hx1) so_RX7 rfl (by decide) rfl rfl (Nat.le_of_ble_eq_true rfl) dX7_tells_47) (fun q10 => ?_)
        exact g_iretT C dX7_tells_50
/-- SnowHouse$Plan.sizeAndLean(I)I -/
def f_X3_sizeAndLean (h : TT) (o0 : Nat) (x1 : Int32) : Option Int32 := (f_X7_isBelow h x1 (h.1 o0 1)).bind fun r1 => (if r1 = 0 then some (0 : Int32) else if inb x1 8 = true then if inb x1 8 = true then some (((10 : Int32) * (h.1 (o0 + 2) x1.toNatClampNeg)) + (h.1 (o0 + 3) x1.toNatClampNeg)) else none else none)
set_option maxRecDepth 20000 in
theorem m_X3_sizeAndLean {l : Launch} {w : WK} {h : TT} {o0 : Nat} {x1 : Int32} {x : Int32} (hx : f_X3_sizeAndLean h o0 x1 = some x) (ho0 : IsP o0) : Met l yX3_sizeAndLean (Cond.code yX3_sizeAndLean cX3_sizeAndLean 2 (some .int) :: wsG) { frames := 1, cells := 0, slots := 0, locals := 21 } (PG w [.ref (w.2.1 (o0)), .int x1] h) (QG w ((fI h) x)) 0 0 (AA w) := by
  refine m_entry (own := RX3) (f := (fI h)) hx (by decide) rfl (Nat.le_of_ble_eq_true rfl) (fun p e s m args below meth c C => ?_)
  show GO p l e _ s m args below meth c w 2 (fI h) (f_X3_sizeAndLean h o0 x1) 0 [(0, .ref (w.2.1 (o0))), (1, .int x1)] [] h
  unfold f_X3_sizeAndLean
  refine g_iload_n (pc := 0) C 1 rfl dX3_sizeAndLean_0 rfl ?_
  refine g_aload_n (pc := 1) C 0 rfl dX3_sizeAndLean_1 rfl ?_
  refine g_get (pc := 2) C (so_RX3 ho0) 1 fl_RX3_25 (v := .int (h.1 o0 1)) rfl dX3_sizeAndLean_2 ?_
  refine g_callI (pc := 5) (rest := []) (g_runN C mn_RX3_41 (fun x1 hx1 => m_X7_isBelow hx1) (by decide) rfl rfl (Nat.le_of_ble_eq_true rfl) dX3_sizeAndLean_5) (fun r1 => ?_)
  refine g_if_eq (pc := 8) (tgt := 30) C dX3_sizeAndLean_8 (by decide) (fun hc2 => ?_) (fun hc2 => ?_)
  · refine g_iconst (pc := 30) (v := 0) C dX3_sizeAndLean_30 kc_0 ?_
    exact g_iret C dX3_sizeAndLean_31
  · refine g_bipush (pc := 11) (v := 10) C dX3_sizeAndLean_11 kb_10 ?_
    refine g_aload_n (pc := 13) C 0 rfl dX3_sizeAndLean_13 rfl ?_
    refine g_get (pc := 14) C (so_RX3 ho0) 5 fl_RX3_15 (v := .ref (w.2.1 (o0 + 2))) rfl dX3_sizeAndLean_14 ?_
    refine g_iload_n (pc := 17) C 1 rfl dX3_sizeAndLean_17 rfl ?_
    refine g_iald (pc := 18) C (siP2 ho0) dX3_sizeAndLean_18 (fun hb3 => ?_)
    refine g_imul (pc := 19) C dX3_sizeAndLean_19 ?_
    refine g_aload_n (pc := 20) C 0 rfl dX3_sizeAndLean_20 rfl ?_
    refine g_get (pc := 21) C (so_RX3 ho0) 6 fl_RX3_18 (v := .ref (w.2.1 (o0 + 3))) rfl dX3_sizeAndLean_21 ?_
    refine g_iload_n (pc := 24) C 1 rfl dX3_sizeAndLean_24 rfl ?_
    refine g_iald (pc := 25) C (siP3 ho0) dX3_sizeAndLean_25 (fun hb4 => ?_)
    refine g_iadd (pc := 26) C dX3_sizeAndLean_26 ?_
    refine g_goto (pc := 27) (tgt := 31) C dX3_sizeAndLean_27 (by decide) ?_
    exact g_iret C dX3_sizeAndLean_31
/-- SnowHouse.course(II)I -/
def f_X7_course (h : TT) (x1 : Int32) (x2 : Int32) : Option (Int32 × TT) := (f_X7_isBelow h x1 (4 : Int32)).bind fun r1 => (if r1 = 0 then some ((-1 : Int32), h) else if inb x1 4 = true then (if (h.1 (25 + 4 * x1.toNatClampNeg) 0) = 0 then (f_X7_found h (1 : Int32)).bind fun q5 => some (q5.1, q5.2) else if inb x1 4 = true then (f_X7_isBelow h x2 (h.1 (25 + 4 * x1.toNatClampNeg) 1)).bind fun r7 => (if r7 = 0 then (f_X7_found h (2 : Int32)).bind fun q9 => some (q9.1, q9.2) else if inb x1 4 = true then (f_X3_sizeAndLean h (25 + 4 * x1.toNatClampNeg) x2).bind fun r11 => nm (wr h 0 13 r11) fun h12 => if inb x1 4 = true then if inb x2 8 = true then some (h12.1 (25 + 4 * x1.toNatClampNeg + 1) x2.toNatClampNeg, h12) else none else none else none) else none) else none)
set_option maxRecDepth 20000 in
theorem m_X7_course {l : Launch} {w : WK} {h : TT} {x1 : Int32} {x2 : Int32} {x : (Int32 × TT)} (hx : f_X7_course h x1 x2 = some x)  : Met l yX7_course (Cond.code yX7_course cX7_course 3 (some .int) :: wsG) { frames := 2, cells := 0, slots := 0, locals := 42 } (PG w [.ref (w.2.1 (0)), .int x1, .int x2] h) (QG w (fIT x)) 0 0 (AA w) := by
  refine m_entry (own := RX7) (f := fIT) hx (by decide) rfl (Nat.le_of_ble_eq_true rfl) (fun p e s m args below meth c C => ?_)
  show GO p l e _ s m args below meth c w 3 fIT (f_X7_course h x1 x2) 0 [(0, .ref (w.2.1 (0))), (1, .int x1), (2, .int x2)] [] h
  unfold f_X7_course
  refine g_iload_n (pc := 0) C 1 rfl dX7_course_0 rfl ?_
  refine g_iconst (pc := 1) (v := 4) C dX7_course_1 kc_4 ?_
  refine g_callI (pc := 2) (rest := []) (g_runS C ms_RX7_105 (fun x1 hx1 => m_X7_isBelow hx1) (by decide) rfl rfl (Nat.le_of_ble_eq_true rfl) dX7_course_2) (fun r1 => ?_)
  refine g_if_ne (pc := 5) (tgt := 10) C dX7_course_5 (by decide) (fun hc2 => ?_) (fun hc2 => ?_)
  · refine g_iconst (pc := 8) (v := -1) C dX7_course_8 kc_m1 ?_
    exact g_iretT C dX7_course_9
  · refine g_aload_n (pc := 10) C 0 rfl dX7_course_10 rfl ?_
    refine g_get (pc := 11) C so_RX7 5 fl_RX7_41 (v := .ref (w.2.1 (24))) rfl dX7_course_11 ?_
    refine g_iload_n (pc := 14) C 1 rfl dX7_course_14 rfl ?_
    refine g_aald (pc := 15) (cA := 0) C sr_plans rfl rfl dX7_course_15 (fun hb3 => ?_)
    refine g_get (pc := 16) C (so_RX3 (isPl hb3)) 0 fl_RX7_164 (v := .int (h.1 (25 + 4 * x1.toNatClampNeg) 0)) rfl dX7_course_16 ?_
    refine g_if_ne (pc := 19) (tgt := 28) C dX7_course_19 (by decide) (fun hc4 => ?_) (fun hc4 => ?_)
    · refine g_aload_n (pc := 22) C 0 rfl dX7_course_22 rfl ?_
      refine g_iconst (pc := 23) (v := 1) C dX7_course_23 kc_1 ?_
      refine g_callIT (pc := 24) (rest := []) (g_runV C mv_RX7_109 (fun x1 hx1 => m_X7_found hx1) so_RX7 rfl (by decide) rfl rfl (Nat.le_of_ble_eq_true rfl) dX7_course_24) (fun q5 => ?_)
      exact g_iretT C dX7_course_27
    · refine g_iload_n (pc := 28) C 2 rfl dX7_course_28 rfl ?_
      refine g_aload_n (pc := 29) C 0 rfl dX7_course_29 rfl ?_
      refine g_get (pc := 30) C so_RX7 5 fl_RX7_41 (v := .ref (w.2.1 (24))) rfl dX7_course_30 ?_
      refine g_iload_n (pc := 33) C 1 rfl dX7_course_33 rfl ?_
      refine g_aald (pc := 34) (cA := 0) C sr_plans rfl rfl dX7_course_34 (fun hb6 => ?_)
      refine g_get (pc := 35) C (so_RX3 (isPl hb6)) 1 fl_RX7_168 (v := .int (h.1 (25 + 4 * x1.toNatClampNeg) 1)) rfl dX7_course_35 ?_
      refine g_callI (pc := 38) (rest := []) (g_runS C ms_RX7_105 (fun x1 hx1 => m_X7_isBelow hx1) (by decide) rfl rfl (Nat.le_of_ble_eq_true rfl) dX7_course_38) (fun r7 => ?_)
      refine g_if_ne (pc := 41) (tgt := 50) C dX7_course_41 (by decide) (fun hc8 => ?_) (fun hc8 => ?_)
      · refine g_aload_n (pc := 44) C 0 rfl dX7_course_44 rfl ?_
        refine g_iconst (pc := 45) (v := 2) C dX7_course_45 kc_2 ?_
        refine g_callIT (pc := 46) (rest := []) (g_runV C mv_RX7_109 (fun x1 hx1 => m_X7_found hx1) so_RX7 rfl (by decide) rfl rfl (Nat.le_of_ble_eq_true rfl) dX7_course_46) (fun q9 => ?_)
        exact g_iretT C dX7_course_49
      · refine g_aload_n (pc := 50) C 0 rfl dX7_course_50 rfl ?_
        refine g_aload_n (pc := 51) C 0 rfl dX7_course_51 rfl ?_
        refine g_get (pc := 52) C so_RX7 5 fl_RX7_41 (v := .ref (w.2.1 (24))) rfl dX7_course_52 ?_
        refine g_iload_n (pc := 55) C 1 rfl dX7_course_55 rfl ?_
        refine g_aald (pc := 56) (cA := 0) C sr_plans rfl rfl dX7_course_56 (fun hb10 => ?_)
        refine g_iload_n (pc := 57) C 2 rfl dX7_course_57 rfl ?_
        refine g_callI (pc := 58) (rest := [.ref (w.2.1 (0))]) (g_runV C mv_RX7_171 (fun x1 hx1 => m_X3_sizeAndLean hx1 (isPl hb10)) (so_RX3 (isPl hb10)) rfl (by decide) rfl rfl (Nat.le_of_ble_eq_true rfl) dX7_course_58) (fun r11 => ?_)
        refine g_putI (pc := 61) C so_RX7 13 fp_RX7_88 (se_RX7_13 _) rfl rfl (sl_RX7_13) dX7_course_61 ?_
        refine g_nm (fun h12 => ?_)
        refine g_aload_n (pc := 64) C 0 rfl dX7_course_64 rfl ?_
        refine g_get (pc := 65) C so_RX7 5 fl_RX7_41 (v := .ref (w.2.1 (24))) rfl dX7_course_65 ?_
        refine g_iload_n (pc := 68) C 1 rfl dX7_course_68 rfl ?_
        refine g_aald (pc := 69) (cA := 0) C sr_plans rfl rfl dX7_course_69 (fun hb13 => ?_)
        refine g_get (pc := 70) C (so_RX3 (isPl hb13)) 4 fl_RX7_174 (v := .ref (w.2.1 (25 + 4 * x1.toNatClampNeg + 1))) rfl dX7_course_70 ?_
        refine g_iload_n (pc := 73) C 2 rfl dX7_course_73 rfl ?_
        refine g_iald (pc := 74) C (siP1 (isPl hb13)) dX7_course_74 (fun hb14 => ?_)
        exact g_iretT C dX7_course_75
/-- SnowHouse.areBuilders(I)Z -/
def f_X7_areBuilders_10 (h : TT)    : Option Int32 := some (1 : Int32)
set_option maxRecDepth 20000 in
theorem j_X7_areBuilders_10 {p : Program} {l : Launch} {e : Env} {R : Room} {s : State} {m : MethodId} {args : Array Value} {below : List Frame} {meth : Method} {c : Code} {w : WK} (C : CX p R s m args meth c w RX7 cX7_areBuilders 1 (some .boolean) 0 0) (h : TT)      : GO p l e R s m args below meth c w 1 (fI h) (f_X7_areBuilders_10 h) 10 [] [] h := by
  unfold f_X7_areBuilders_10
  refine g_iconst (pc := 10) (v := 1) C dX7_areBuilders_10 kc_1 ?_
  refine g_goto (pc := 11) (tgt := 15) C dX7_areBuilders_11 (by decide) ?_
  exact g_zret C dX7_areBuilders_15 rfl
def f_X7_areBuilders (h : TT) (x0 : Int32) : Option Int32 := (if x0 = (1 : Int32) then f_X7_areBuilders_10 h else (if x0 = (2 : Int32) then f_X7_areBuilders_10 h else some (0 : Int32)))
set_option maxRecDepth 20000 in
theorem m_X7_areBuilders {l : Launch} {w : WK} {h : TT} {x0 : Int32} {x : Int32} (hx : f_X7_areBuilders h x0 = some x)  : Met l yX7_areBuilders (Cond.code yX7_areBuilders cX7_areBuilders 1 (some .boolean) :: wsG) { frames := 0, cells := 0, slots := 0, locals := 0 } (PG w [.int x0] h) (QG w ((fI h) x)) 0 0 (AA w) := by
  refine m_entry (own := RX7) (f := (fI h)) hx (by decide) rfl (Nat.le_of_ble_eq_true rfl) (fun p e s m args below meth c C => ?_)
  show GO p l e _ s m args below meth c w 1 (fI h) (f_X7_areBuilders h x0) 0 [(0, .int x0)] [] h
  unfold f_X7_areBuilders
  refine g_iload_n (pc := 0) C 0 rfl dX7_areBuilders_0 rfl ?_
  refine g_iconst (pc := 1) (v := 1) C dX7_areBuilders_1 kc_1 ?_
  refine g_icmp_eq (pc := 2) (tgt := 10) C dX7_areBuilders_2 (by decide) (fun hc1 => ?_) (fun hc1 => ?_)
  · refine g_lv (lv' := []) [] rfl ?_
    exact j_X7_areBuilders_10 C h
  · refine g_iload_n (pc := 5) C 0 rfl dX7_areBuilders_5 rfl ?_
    refine g_iconst (pc := 6) (v := 2) C dX7_areBuilders_6 kc_2 ?_
    refine g_icmp_ne (pc := 7) (tgt := 14) C dX7_areBuilders_7 (by decide) (fun hc2 => ?_) (fun hc2 => ?_)
    · refine g_lv (lv' := []) [] rfl ?_
      exact j_X7_areBuilders_10 C h
    · refine g_iconst (pc := 14) (v := 0) C dX7_areBuilders_14 kc_0 ?_
      exact g_zret C dX7_areBuilders_15 rfl
/-- SnowHouse$Build.rest(III)V -/
def f_X0_rest_109 (o0 : Nat)  (xs0 : Int32) (xs1 : Int32) (xs2 : Int32) (h : TT) : Option TT := if inb xs2 60 = true then nm (wr h (o0 + 14) xs2.toNatClampNeg (xs1 + xs0)) fun h19 => some h19 else none
set_option maxRecDepth 20000 in
theorem j_X0_rest_109 {p : Program} {l : Launch} {e : Env} {R : Room} {s : State} {m : MethodId} {args : Array Value} {below : List Frame} {meth : Method} {c : Code} {w : WK} (C : CX p R s m args meth c w RX0 cX0_rest 6 none 0 0)  {o0 : Nat} (ho0 : IsB o0)  (xs0 : Int32) (xs1 : Int32) (xs2 : Int32)  (h : TT) : GO p l e R s m args below meth c w 6 fV (f_X0_rest_109 o0 xs0 xs1 xs2 h) 109 [] [.int xs0, .int xs1, .int xs2, .ref (w.2.1 (o0 + 14))] h := by
  unfold f_X0_rest_109
  refine g_iadd (pc := 109) C dX0_rest_109 ?_
  refine g_iast (pc := 110) C (siB14 ho0) dX0_rest_110 (fun hb18 => ?_)
  refine g_nm (fun h19 => ?_)
  exact g_vret C dX0_rest_111
def f_X0_rest (h : TT) (o0 : Nat) (x1 : Int32) (x2 : Int32) (x3 : Int32) : Option TT := if inb x1 60 = true then nm (wr h (o0 + 13) x1.toNatClampNeg (-9 : Int32)) fun h2 => if inb x1 60 = true then nm (wr h2 (o0 + 14) x1.toNatClampNeg (-9 : Int32)) fun h4 => (if x2 = 0 then some h4 else if inb x2 8 = true then (if 0 < (h4.1 (o0 + 3 + 2) x2.toNatClampNeg) then if inb (x2 - (1 : Int32)) 8 = true then nm (h4.1 (o0 + 3 + 2) (x2 - (1 : Int32)).toNatClampNeg) fun y9 => if inb x2 8 = true then if (h4.1 (o0 + 3 + 2) x2.toNatClampNeg) = 0 then none else nm ((x3 * y9) / (h4.1 (o0 + 3 + 2) x2.toNatClampNeg)) fun y12 => if inb (x2 - (1 : Int32)) 8 = true then if inb x1 60 = true then nm (wr h4 (o0 + 13) x1.toNatClampNeg ((h4.1 (o0 + 11) (x2 - (1 : Int32)).toNatClampNeg) + y12)) fun h15 => if inb (x2 - (1 : Int32)) 8 = true then (if y9 ≤ (y12 + (1 : Int32)) then f_X0_rest_109 o0 (0 : Int32) (h15.1 (o0 + 11) (x2 - (1 : Int32)).toNatClampNeg) x1 h15 else f_X0_rest_109 o0 (y12 + (1 : Int32)) (h15.1 (o0 + 11) (x2 - (1 : Int32)).toNatClampNeg) x1 h15) else none else none else none else none else none else some h4) else none) else none else none
set_option maxRecDepth 20000 in
theorem m_X0_rest {l : Launch} {w : WK} {h : TT} {o0 : Nat} {x1 : Int32} {x2 : Int32} {x3 : Int32} {x : TT} (hx : f_X0_rest h o0 x1 x2 x3 = some x) (ho0 : IsB o0) : Met l yX0_rest (Cond.code yX0_rest cX0_rest 6 none :: wsG) { frames := 0, cells := 0, slots := 0, locals := 0 } (PG w [.ref (w.2.1 (o0)), .int x1, .int x2, .int x3] h) (QG w (fV x)) 0 0 (AA w) := by
  refine m_entry (own := RX0) (f := fV) hx (by decide) rfl (Nat.le_of_ble_eq_true rfl) (fun p e s m args below meth c C => ?_)
  show GO p l e _ s m args below meth c w 6 fV (f_X0_rest h o0 x1 x2 x3) 0 [(0, .ref (w.2.1 (o0))), (1, .int x1), (2, .int x2), (3, .int x3)] [] h
  unfold f_X0_rest
  refine g_aload_n (pc := 0) C 0 rfl dX0_rest_0 rfl ?_
  refine g_get (pc := 1) C (so_RX0 ho0) 13 fl_RX0_48 (v := .ref (w.2.1 (o0 + 13))) rfl dX0_rest_1 ?_
  refine g_iload_n (pc := 4) C 1 rfl dX0_rest_4 rfl ?_
  refine g_bipush (pc := 5) (v := -9) C dX0_rest_5 kb_m9 ?_
  refine g_iast (pc := 7) C (siB13 ho0) dX0_rest_7 (fun hb1 => ?_)
  refine g_nm (fun h2 => ?_)
  refine g_aload_n (pc := 8) C 0 rfl dX0_rest_8 rfl ?_
  refine g_get (pc := 9) C (so_RX0 ho0) 14 fl_RX0_51 (v := .ref (w.2.1 (o0 + 14))) rfl dX0_rest_9 ?_
  refine g_iload_n (pc := 12) C 1 rfl dX0_rest_12 rfl ?_
  refine g_bipush (pc := 13) (v := -9) C dX0_rest_13 kb_m9 ?_
  refine g_iast (pc := 15) C (siB14 ho0) dX0_rest_15 (fun hb3 => ?_)
  refine g_nm (fun h4 => ?_)
  refine g_iload_n (pc := 16) C 2 rfl dX0_rest_16 rfl ?_
  refine g_if_eq (pc := 17) (tgt := 32) C dX0_rest_17 (by decide) (fun hc5 => ?_) (fun hc5 => ?_)
  · exact g_vret C dX0_rest_32
  · refine g_aload_n (pc := 20) C 0 rfl dX0_rest_20 rfl ?_
    refine g_get (pc := 21) C (so_RX0 ho0) 2 fl_RX0_21 (v := .ref (w.2.1 (o0 + 3))) rfl dX0_rest_21 ?_
    refine g_get (pc := 24) C (so_RX3 (isP_B ho0)) 5 fl_RX0_101 (v := .ref (w.2.1 (o0 + 3 + 2))) rfl dX0_rest_24 ?_
    refine g_iload_n (pc := 27) C 2 rfl dX0_rest_27 rfl ?_
    refine g_iald (pc := 28) C (siP2 (isP_B ho0)) dX0_rest_28 (fun hb6 => ?_)
    refine g_if_gt (pc := 29) (tgt := 33) C dX0_rest_29 (by decide) (fun hc7 => ?_) (fun hc7 => ?_)
    · refine g_aload_n (pc := 33) C 0 rfl dX0_rest_33 rfl ?_
      refine g_get (pc := 34) C (so_RX0 ho0) 2 fl_RX0_21 (v := .ref (w.2.1 (o0 + 3))) rfl dX0_rest_34 ?_
      refine g_get (pc := 37) C (so_RX3 (isP_B ho0)) 5 fl_RX0_101 (v := .ref (w.2.1 (o0 + 3 + 2))) rfl dX0_rest_37 ?_
      refine g_iload_n (pc := 40) C 2 rfl dX0_rest_40 rfl ?_
      refine g_iconst (pc := 41) (v := 1) C dX0_rest_41 kc_1 ?_
      refine g_isub (pc := 42) C dX0_rest_42 ?_
      refine g_iald (pc := 43) C (siP2 (isP_B ho0)) dX0_rest_43 (fun hb8 => ?_)
      refine g_nmi (fun y9 => ?_)
      refine g_istore (pc := 44) C dX0_rest_44 (by decide) (lv' := [(4, .int y9), (0, .ref (w.2.1 (o0))), (1, .int x1), (2, .int x2), (3, .int x3)]) rfl ?_
      refine g_iload_n (pc := 46) C 4 rfl dX0_rest_46 rfl ?_
      refine g_iload (pc := 47) C 0 rfl dX0_rest_47 ?_
      refine g_imul (pc := 49) C dX0_rest_49 ?_
      refine g_aload_n (pc := 50) C 1 rfl dX0_rest_50 rfl ?_
      refine g_get (pc := 51) C (so_RX0 ho0) 2 fl_RX0_21 (v := .ref (w.2.1 (o0 + 3))) rfl dX0_rest_51 ?_
      refine g_get (pc := 54) C (so_RX3 (isP_B ho0)) 5 fl_RX0_101 (v := .ref (w.2.1 (o0 + 3 + 2))) rfl dX0_rest_54 ?_
      refine g_iload_n (pc := 57) C 3 rfl dX0_rest_57 rfl ?_
      refine g_iald (pc := 58) C (siP2 (isP_B ho0)) dX0_rest_58 (fun hb10 => ?_)
      refine g_guardp (fun hz11 => ?_)
      refine g_idiv (pc := 59) C dX0_rest_59 hz11 ?_
      refine g_nmi (fun y12 => ?_)
      refine g_istore (pc := 60) C dX0_rest_60 (by decide) (lv' := [(5, .int y12), (4, .int y9), (0, .ref (w.2.1 (o0))), (1, .int x1), (2, .int x2), (3, .int x3)]) rfl ?_
      refine g_aload_n (pc := 62) C 2 rfl dX0_rest_62 rfl ?_
      refine g_get (pc := 63) C (so_RX0 ho0) 13 fl_RX0_48 (v := .ref (w.2.1 (o0 + 13))) rfl dX0_rest_63 ?_
      refine g_iload_n (pc := 66) C 3 rfl dX0_rest_66 rfl ?_
      refine g_aload_n (pc := 67) C 2 rfl dX0_rest_67 rfl ?_
      refine g_get (pc := 68) C (so_RX0 ho0) 11 fl_RX0_42 (v := .ref (w.2.1 (o0 + 11))) rfl dX0_rest_68 ?_
      refine g_iload_n (pc := 71) C 4 rfl dX0_rest_71 rfl ?_
      refine g_iconst (pc := 72) (v := 1) C dX0_rest_72 kc_1 ?_
      refine g_isub (pc := 73) C dX0_rest_73 ?_
      refine g_iald (pc := 74) C (siB11 ho0) dX0_rest_74 (fun hb13 => ?_)
      refine g_iload (pc := 75) C 0 rfl dX0_rest_75 ?_
      refine g_iadd (pc := 77) C dX0_rest_77 ?_
      refine g_iast (pc := 78) C (siB13 ho0) dX0_rest_78 (fun hb14 => ?_)
      refine g_nm (fun h15 => ?_)
      refine g_aload_n (pc := 79) C 2 rfl dX0_rest_79 rfl ?_
      refine g_get (pc := 80) C (so_RX0 ho0) 14 fl_RX0_51 (v := .ref (w.2.1 (o0 + 14))) rfl dX0_rest_80 ?_
      refine g_iload_n (pc := 83) C 3 rfl dX0_rest_83 rfl ?_
      refine g_aload_n (pc := 84) C 2 rfl dX0_rest_84 rfl ?_
      refine g_get (pc := 85) C (so_RX0 ho0) 11 fl_RX0_42 (v := .ref (w.2.1 (o0 + 11))) rfl dX0_rest_85 ?_
      refine g_iload_n (pc := 88) C 4 rfl dX0_rest_88 rfl ?_
      refine g_iconst (pc := 89) (v := 1) C dX0_rest_89 kc_1 ?_
      refine g_isub (pc := 90) C dX0_rest_90 ?_
      refine g_iald (pc := 91) C (siB11 ho0) dX0_rest_91 (fun hb16 => ?_)
      refine g_iload (pc := 92) C 0 rfl dX0_rest_92 ?_
      refine g_iconst (pc := 94) (v := 1) C dX0_rest_94 kc_1 ?_
      refine g_iadd (pc := 95) C dX0_rest_95 ?_
      refine g_iload (pc := 96) C 1 rfl dX0_rest_96 ?_
      refine g_icmp_ge (pc := 98) (tgt := 108) C dX0_rest_98 (by decide) (fun hc17 => ?_) (fun hc17 => ?_)
      · refine g_iconst (pc := 108) (v := 0) C dX0_rest_108 kc_0 ?_
        refine g_lv (lv' := []) [] rfl ?_
        exact j_X0_rest_109 C ho0 (0 : Int32) (h15.1 (o0 + 11) (x2 - (1 : Int32)).toNatClampNeg) x1 h15
      · refine g_iload (pc := 101) C 0 rfl dX0_rest_101 ?_
        refine g_iconst (pc := 103) (v := 1) C dX0_rest_103 kc_1 ?_
        refine g_iadd (pc := 104) C dX0_rest_104 ?_
        refine g_goto (pc := 105) (tgt := 109) C dX0_rest_105 (by decide) ?_
        refine g_lv (lv' := []) [] rfl ?_
        exact j_X0_rest_109 C ho0 (y12 + (1 : Int32)) (h15.1 (o0 + 11) (x2 - (1 : Int32)).toNatClampNeg) x1 h15
    · exact g_vret C dX0_rest_32
/-- SnowHouse$Build.joinCourse(I)V -/
def f_X0_joinCourse_172 (o0 : Nat) (k30 : Int32 → Int32 → Int32 → Int32 → Int32 → TT → Option TT) (x1 : Int32) (x2 : Int32) (x3 : Int32) (x4 : Int32) (x5 : Int32) (h : TT) : Option TT := k30 x1 x2 x3 x4 (x5 + (1 : Int32)) h
set_option maxRecDepth 20000 in
theorem j_X0_joinCourse_172 {p : Program} {l : Launch} {e : Env} {R : Room} {s : State} {m : MethodId} {args : Array Value} {below : List Frame} {meth : Method} {c : Code} {w : WK} (C : CX p R s m args meth c w RX0 cX0_joinCourse 6 none 1 21)  {o0 : Nat} (ho0 : IsB o0) {k30 : Int32 → Int32 → Int32 → Int32 → Int32 → TT → Option TT} (hk30 : ∀ (x1 : Int32) (x2 : Int32) (x3 : Int32) (x4 : Int32) (x5 : Int32)  (h : TT), GO p l e R s m args below meth c w 6 fV (k30 x1 x2 x3 x4 x5 h) 30 [(0, .ref (w.2.1 (o0))), (1, .int x1), (2, .int x2), (3, .int x3), (4, .int x4), (5, .int x5)] [] h) (x1 : Int32) (x2 : Int32) (x3 : Int32) (x4 : Int32) (x5 : Int32)  (h : TT) : GO p l e R s m args below meth c w 6 fV (f_X0_joinCourse_172 o0 k30 x1 x2 x3 x4 x5 h) 172 [(0, .ref (w.2.1 (o0))), (1, .int x1), (2, .int x2), (3, .int x3), (4, .int x4), (5, .int x5)] [] h := by
  unfold f_X0_joinCourse_172
  refine g_iinc (pc := 172) C 5 rfl dX0_joinCourse_172 (ki_1 _) (by decide) (lv' := [(5, .int (x5 + (1 : Int32))), (0, .ref (w.2.1 (o0))), (1, .int x1), (2, .int x2), (3, .int x3), (4, .int x4)]) rfl ?_
  refine g_goto (pc := 175) (tgt := 30) C dX0_joinCourse_175 (by decide) ?_
  refine g_lv (lv' := [(0, .ref (w.2.1 (o0))), (1, .int x1), (2, .int x2), (3, .int x3), (4, .int x4), (5, .int (x5 + (1 : Int32)))]) [1, 2, 3, 4, 5, 0] rfl ?_
  exact hk30 x1 x2 x3 x4 (x5 + (1 : Int32)) h
def f_X0_joinCourse_100 (o0 : Nat) (k30 : Int32 → Int32 → Int32 → Int32 → Int32 → TT → Option TT) (x1 : Int32) (x2 : Int32) (x3 : Int32) (x4 : Int32) (x5 : Int32) (xs0 : Int32) (xs1 : Int32) (h : TT) : Option TT := if inb xs1 60 = true then nm (wr h (o0 + 16) xs1.toNatClampNeg xs0) fun h14 => f_X0_joinCourse_172 o0 k30 x1 x2 x3 x4 x5 h14 else none
set_option maxRecDepth 20000 in
theorem j_X0_joinCourse_100 {p : Program} {l : Launch} {e : Env} {R : Room} {s : State} {m : MethodId} {args : Array Value} {below : List Frame} {meth : Method} {c : Code} {w : WK} (C : CX p R s m args meth c w RX0 cX0_joinCourse 6 none 1 21)  {o0 : Nat} (ho0 : IsB o0) {k30 : Int32 → Int32 → Int32 → Int32 → Int32 → TT → Option TT} (hk30 : ∀ (x1 : Int32) (x2 : Int32) (x3 : Int32) (x4 : Int32) (x5 : Int32)  (h : TT), GO p l e R s m args below meth c w 6 fV (k30 x1 x2 x3 x4 x5 h) 30 [(0, .ref (w.2.1 (o0))), (1, .int x1), (2, .int x2), (3, .int x3), (4, .int x4), (5, .int x5)] [] h) (x1 : Int32) (x2 : Int32) (x3 : Int32) (x4 : Int32) (x5 : Int32) (xs0 : Int32) (xs1 : Int32)  (h : TT) : GO p l e R s m args below meth c w 6 fV (f_X0_joinCourse_100 o0 k30 x1 x2 x3 x4 x5 xs0 xs1 h) 100 [(0, .ref (w.2.1 (o0))), (1, .int x1), (2, .int x2), (3, .int x3), (4, .int x4), (5, .int x5)] [.int xs0, .int xs1, .ref (w.2.1 (o0 + 16))] h := by
  unfold f_X0_joinCourse_100
  refine g_iast (pc := 100) C (siB16 ho0) dX0_joinCourse_100 (fun hb13 => ?_)
  refine g_nm (fun h14 => ?_)
  refine g_goto (pc := 101) (tgt := 172) C dX0_joinCourse_101 (by decide) ?_
  exact j_X0_joinCourse_172 C ho0 hk30 x1 x2 x3 x4 x5 h14
def f_X0_joinCourse_70 (o0 : Nat) (k30 : Int32 → Int32 → Int32 → Int32 → Int32 → TT → Option TT) (x1 : Int32) (x2 : Int32) (x3 : Int32) (x4 : Int32) (x5 : Int32) (xs0 : Int32) (xs1 : Int32) (h : TT) : Option TT := if inb xs1 60 = true then nm (wr h (o0 + 15) xs1.toNatClampNeg xs0) fun h11 => (if (h11.1 (o0 + 3) 2) ≤ (x5 + (1 : Int32)) then f_X0_joinCourse_100 o0 k30 x1 x2 x3 x4 x5 (-9 : Int32) x5 h11 else f_X0_joinCourse_100 o0 k30 x1 x2 x3 x4 x5 (x5 + (1 : Int32)) x5 h11) else none
set_option maxRecDepth 20000 in
theorem j_X0_joinCourse_70 {p : Program} {l : Launch} {e : Env} {R : Room} {s : State} {m : MethodId} {args : Array Value} {below : List Frame} {meth : Method} {c : Code} {w : WK} (C : CX p R s m args meth c w RX0 cX0_joinCourse 6 none 1 21)  {o0 : Nat} (ho0 : IsB o0) {k30 : Int32 → Int32 → Int32 → Int32 → Int32 → TT → Option TT} (hk30 : ∀ (x1 : Int32) (x2 : Int32) (x3 : Int32) (x4 : Int32) (x5 : Int32)  (h : TT), GO p l e R s m args below meth c w 6 fV (k30 x1 x2 x3 x4 x5 h) 30 [(0, .ref (w.2.1 (o0))), (1, .int x1), (2, .int x2), (3, .int x3), (4, .int x4), (5, .int x5)] [] h) (x1 : Int32) (x2 : Int32) (x3 : Int32) (x4 : Int32) (x5 : Int32) (xs0 : Int32) (xs1 : Int32)  (h : TT) : GO p l e R s m args below meth c w 6 fV (f_X0_joinCourse_70 o0 k30 x1 x2 x3 x4 x5 xs0 xs1 h) 70 [(0, .ref (w.2.1 (o0))), (1, .int x1), (2, .int x2), (3, .int x3), (4, .int x4), (5, .int x5)] [.int xs0, .int xs1, .ref (w.2.1 (o0 + 15))] h := by
  unfold f_X0_joinCourse_70
  refine g_iast (pc := 70) C (siB15 ho0) dX0_joinCourse_70 (fun hb10 => ?_)
  refine g_nm (fun h11 => ?_)
  refine g_aload_n (pc := 71) C 0 rfl dX0_joinCourse_71 rfl ?_
  refine g_get (pc := 72) C (so_RX0 ho0) 16 fl_RX0_57 (v := .ref (w.2.1 (o0 + 16))) rfl dX0_joinCourse_72 ?_
  refine g_iload (pc := 75) C 5 rfl dX0_joinCourse_75 ?_
  refine g_iload (pc := 77) C 5 rfl dX0_joinCourse_77 ?_
  refine g_iconst (pc := 79) (v := 1) C dX0_joinCourse_79 kc_1 ?_
  refine g_iadd (pc := 80) C dX0_joinCourse_80 ?_
  refine g_aload_n (pc := 81) C 0 rfl dX0_joinCourse_81 rfl ?_
  refine g_get (pc := 82) C (so_RX0 ho0) 2 fl_RX0_21 (v := .ref (w.2.1 (o0 + 3))) rfl dX0_joinCourse_82 ?_
  refine g_get (pc := 85) C (so_RX3 (isP_B ho0)) 2 fl_RX0_121 (v := .int (h11.1 (o0 + 3) 2)) rfl dX0_joinCourse_85 ?_
  refine g_icmp_ge (pc := 88) (tgt := 98) C dX0_joinCourse_88 (by decide) (fun hc12 => ?_) (fun hc12 => ?_)
  · refine g_bipush (pc := 98) (v := -9) C dX0_joinCourse_98 kb_m9 ?_
    exact j_X0_joinCourse_100 C ho0 hk30 x1 x2 x3 x4 x5 (-9 : Int32) x5 h11
  · refine g_iload (pc := 91) C 5 rfl dX0_joinCourse_91 ?_
    refine g_iconst (pc := 93) (v := 1) C dX0_joinCourse_93 kc_1 ?_
    refine g_iadd (pc := 94) C dX0_joinCourse_94 ?_
    refine g_goto (pc := 95) (tgt := 100) C dX0_joinCourse_95 (by decide) ?_
    exact j_X0_joinCourse_100 C ho0 hk30 x1 x2 x3 x4 x5 (x5 + (1 : Int32)) x5 h11
def f_X0_joinCourse_171 (o0 : Nat) (k30 : Int32 → Int32 → Int32 → Int32 → Int32 → TT → Option TT) (x1 : Int32) (x2 : Int32) (x3 : Int32) (x4 : Int32) (x5 : Int32) (xs0 : Int32) (xs1 : Int32) (h : TT) : Option TT := if inb xs1 60 = true then nm (wr h (o0 + 16) xs1.toNatClampNeg xs0) fun h22 => f_X0_joinCourse_172 o0 k30 x1 x2 x3 x4 x5 h22 else none
set_option maxRecDepth 20000 in
theorem j_X0_joinCourse_171 {p : Program} {l : Launch} {e : Env} {R : Room} {s : State} {m : MethodId} {args : Array Value} {below : List Frame} {meth : Method} {c : Code} {w : WK} (C : CX p R s m args meth c w RX0 cX0_joinCourse 6 none 1 21)  {o0 : Nat} (ho0 : IsB o0) {k30 : Int32 → Int32 → Int32 → Int32 → Int32 → TT → Option TT} (hk30 : ∀ (x1 : Int32) (x2 : Int32) (x3 : Int32) (x4 : Int32) (x5 : Int32)  (h : TT), GO p l e R s m args below meth c w 6 fV (k30 x1 x2 x3 x4 x5 h) 30 [(0, .ref (w.2.1 (o0))), (1, .int x1), (2, .int x2), (3, .int x3), (4, .int x4), (5, .int x5)] [] h) (x1 : Int32) (x2 : Int32) (x3 : Int32) (x4 : Int32) (x5 : Int32) (xs0 : Int32) (xs1 : Int32)  (h : TT) : GO p l e R s m args below meth c w 6 fV (f_X0_joinCourse_171 o0 k30 x1 x2 x3 x4 x5 xs0 xs1 h) 171 [(0, .ref (w.2.1 (o0))), (1, .int x1), (2, .int x2), (3, .int x3), (4, .int x4), (5, .int x5)] [.int xs0, .int xs1, .ref (w.2.1 (o0 + 16))] h := by
  unfold f_X0_joinCourse_171
  refine g_iast (pc := 171) C (siB16 ho0) dX0_joinCourse_171 (fun hb21 => ?_)
  refine g_nm (fun h22 => ?_)
  exact j_X0_joinCourse_172 C ho0 hk30 x1 x2 x3 x4 x5 h22
def f_X0_joinCourse_137 (o0 : Nat) (k30 : Int32 → Int32 → Int32 → Int32 → Int32 → TT → Option TT) (x1 : Int32) (x2 : Int32) (x3 : Int32) (x4 : Int32) (x5 : Int32) (xs0 : Int32) (xs1 : Int32) (h : TT) : Option TT := if inb xs1 60 = true then nm (wr h (o0 + 15) xs1.toNatClampNeg xs0) fun h18 => (if (3 : Int32) ≤ x3 then (if x4 ≤ (x5 + (1 : Int32)) then f_X0_joinCourse_171 o0 k30 x1 x2 x3 x4 x5 x2 x5 h18 else f_X0_joinCourse_171 o0 k30 x1 x2 x3 x4 x5 (x5 + (1 : Int32)) x5 h18) else f_X0_joinCourse_171 o0 k30 x1 x2 x3 x4 x5 (-9 : Int32) x5 h18) else none
set_option maxRecDepth 20000 in
theorem j_X0_joinCourse_137 {p : Program} {l : Launch} {e : Env} {R : Room} {s : State} {m : MethodId} {args : Array Value} {below : List Frame} {meth : Method} {c : Code} {w : WK} (C : CX p R s m args meth c w RX0 cX0_joinCourse 6 none 1 21)  {o0 : Nat} (ho0 : IsB o0) {k30 : Int32 → Int32 → Int32 → Int32 → Int32 → TT → Option TT} (hk30 : ∀ (x1 : Int32) (x2 : Int32) (x3 : Int32) (x4 : Int32) (x5 : Int32)  (h : TT), GO p l e R s m args below meth c w 6 fV (k30 x1 x2 x3 x4 x5 h) 30 [(0, .ref (w.2.1 (o0))), (1, .int x1), (2, .int x2), (3, .int x3), (4, .int x4), (5, .int x5)] [] h) (x1 : Int32) (x2 : Int32) (x3 : Int32) (x4 : Int32) (x5 : Int32) (xs0 : Int32) (xs1 : Int32)  (h : TT) : GO p l e R s m args below meth c w 6 fV (f_X0_joinCourse_137 o0 k30 x1 x2 x3 x4 x5 xs0 xs1 h) 137 [(0, .ref (w.2.1 (o0))), (1, .int x1), (2, .int x2), (3, .int x3), (4, .int x4), (5, .int x5)] [.int xs0, .int xs1, .ref (w.2.1 (o0 + 15))] h := by
  unfold f_X0_joinCourse_137
  refine g_iast (pc := 137) C (siB15 ho0) dX0_joinCourse_137 (fun hb17 => ?_)
  refine g_nm (fun h18 => ?_)
  refine g_aload_n (pc := 138) C 0 rfl dX0_joinCourse_138 rfl ?_
  refine g_get (pc := 139) C (so_RX0 ho0) 16 fl_RX0_57 (v := .ref (w.2.1 (o0 + 16))) rfl dX0_joinCourse_139 ?_
  refine g_iload (pc := 142) C 5 rfl dX0_joinCourse_142 ?_
  refine g_iload_n (pc := 144) C 3 rfl dX0_joinCourse_144 rfl ?_
  refine g_iconst (pc := 145) (v := 3) C dX0_joinCourse_145 kc_3 ?_
  refine g_icmp_ge (pc := 146) (tgt := 154) C dX0_joinCourse_146 (by decide) (fun hc19 => ?_) (fun hc19 => ?_)
  · refine g_iload (pc := 154) C 5 rfl dX0_joinCourse_154 ?_
    refine g_iconst (pc := 156) (v := 1) C dX0_joinCourse_156 kc_1 ?_
    refine g_iadd (pc := 157) C dX0_joinCourse_157 ?_
    refine g_iload (pc := 158) C 4 rfl dX0_joinCourse_158 ?_
    refine g_icmp_ge (pc := 160) (tgt := 170) C dX0_joinCourse_160 (by decide) (fun hc20 => ?_) (fun hc20 => ?_)
    · refine g_iload_n (pc := 170) C 2 rfl dX0_joinCourse_170 rfl ?_
      exact j_X0_joinCourse_171 C ho0 hk30 x1 x2 x3 x4 x5 x2 x5 h18
    · refine g_iload (pc := 163) C 5 rfl dX0_joinCourse_163 ?_
      refine g_iconst (pc := 165) (v := 1) C dX0_joinCourse_165 kc_1 ?_
      refine g_iadd (pc := 166) C dX0_joinCourse_166 ?_
      refine g_goto (pc := 167) (tgt := 171) C dX0_joinCourse_167 (by decide) ?_
      exact j_X0_joinCourse_171 C ho0 hk30 x1 x2 x3 x4 x5 (x5 + (1 : Int32)) x5 h18
  · refine g_bipush (pc := 149) (v := -9) C dX0_joinCourse_149 kb_m9 ?_
    refine g_goto (pc := 151) (tgt := 171) C dX0_joinCourse_151 (by decide) ?_
    exact j_X0_joinCourse_171 C ho0 hk30 x1 x2 x3 x4 x5 (-9 : Int32) x5 h18
def f_X0_joinCourse_30 (o0 : Nat)  : Nat → Int32 → Int32 → Int32 → Int32 → Int32 → TT → Option TT
  | 0, _, _, _, _, _, _ => none
  | n + 1, x1, x2, x3, x4, x5, h => (if x4 ≤ x5 then some h else if inb x1 8 = true then (if (h.1 (o0 + 3 + 1) x1.toNatClampNeg) = (2 : Int32) then (if x5 ≤ 0 then f_X0_joinCourse_70 o0 (f_X0_joinCourse_30 o0 n) x1 x2 x3 x4 x5 (-9 : Int32) x5 h else f_X0_joinCourse_70 o0 (f_X0_joinCourse_30 o0 n) x1 x2 x3 x4 x5 (x5 - (1 : Int32)) x5 h) else (if (2 : Int32) ≤ x3 then (if x5 ≤ x2 then f_X0_joinCourse_137 o0 (f_X0_joinCourse_30 o0 n) x1 x2 x3 x4 x5 (x4 - (1 : Int32)) x5 h else f_X0_joinCourse_137 o0 (f_X0_joinCourse_30 o0 n) x1 x2 x3 x4 x5 (x5 - (1 : Int32)) x5 h) else f_X0_joinCourse_137 o0 (f_X0_joinCourse_30 o0 n) x1 x2 x3 x4 x5 (-9 : Int32) x5 h)) else none)
set_option maxRecDepth 20000 in
theorem j_X0_joinCourse_30 {p : Program} {l : Launch} {e : Env} {R : Room} {s : State} {m : MethodId} {args : Array Value} {below : List Frame} {meth : Method} {c : Code} {w : WK} (C : CX p R s m args meth c w RX0 cX0_joinCourse 6 none 1 21)  {o0 : Nat} (ho0 : IsB o0)  : ∀ (n : Nat) (x1 : Int32) (x2 : Int32) (x3 : Int32) (x4 : Int32) (x5 : Int32) (h : TT), GO p l e R s m args below meth c w 6 fV (f_X0_joinCourse_30 o0 n x1 x2 x3 x4 x5 h) 30 [(0, .ref (w.2.1 (o0))), (1, .int x1), (2, .int x2), (3, .int x3), (4, .int x4), (5, .int x5)] [] h := by
  intro n
  induction n with
  | zero =>
    intro x1 x2 x3 x4 x5 h
    exact g_none
  | succ n ih =>
    intro x1 x2 x3 x4 x5 h
    rw [f_X0_joinCourse_30]
    refine g_iload (pc := 30) C 5 rfl dX0_joinCourse_30 ?_
    refine g_iload (pc := 32) C 4 rfl dX0_joinCourse_32 ?_
    refine g_icmp_ge (pc := 34) (tgt := 178) C dX0_joinCourse_34 (by decide) (fun hc6 => ?_) (fun hc6 => ?_)
    · exact g_vret C dX0_joinCourse_178
    · refine g_aload_n (pc := 37) C 0 rfl dX0_joinCourse_37 rfl ?_
      refine g_get (pc := 38) C (so_RX0 ho0) 2 fl_RX0_21 (v := .ref (w.2.1 (o0 + 3))) rfl dX0_joinCourse_38 ?_
      refine g_get (pc := 41) C (so_RX3 (isP_B ho0)) 4 fl_RX0_118 (v := .ref (w.2.1 (o0 + 3 + 1))) rfl dX0_joinCourse_41 ?_
      refine g_iload_n (pc := 44) C 1 rfl dX0_joinCourse_44 rfl ?_
      refine g_iald (pc := 45) C (siP1 (isP_B ho0)) dX0_joinCourse_45 (fun hb7 => ?_)
      refine g_iconst (pc := 46) (v := 2) C dX0_joinCourse_46 kc_2 ?_
      refine g_icmp_ne (pc := 47) (tgt := 104) C dX0_joinCourse_47 (by decide) (fun hc8 => ?_) (fun hc8 => ?_)
      · refine g_aload_n (pc := 50) C 0 rfl dX0_joinCourse_50 rfl ?_
        refine g_get (pc := 51) C (so_RX0 ho0) 15 fl_RX0_54 (v := .ref (w.2.1 (o0 + 15))) rfl dX0_joinCourse_51 ?_
        refine g_iload (pc := 54) C 5 rfl dX0_joinCourse_54 ?_
        refine g_iload (pc := 56) C 5 rfl dX0_joinCourse_56 ?_
        refine g_if_le (pc := 58) (tgt := 68) C dX0_joinCourse_58 (by decide) (fun hc9 => ?_) (fun hc9 => ?_)
        · refine g_bipush (pc := 68) (v := -9) C dX0_joinCourse_68 kb_m9 ?_
          exact j_X0_joinCourse_70 C ho0 ih x1 x2 x3 x4 x5 (-9 : Int32) x5 h
        · refine g_iload (pc := 61) C 5 rfl dX0_joinCourse_61 ?_
          refine g_iconst (pc := 63) (v := 1) C dX0_joinCourse_63 kc_1 ?_
          refine g_isub (pc := 64) C dX0_joinCourse_64 ?_
          refine g_goto (pc := 65) (tgt := 70) C dX0_joinCourse_65 (by decide) ?_
          exact j_X0_joinCourse_70 C ho0 ih x1 x2 x3 x4 x5 (x5 - (1 : Int32)) x5 h
      · refine g_aload_n (pc := 104) C 0 rfl dX0_joinCourse_104 rfl ?_
        refine g_get (pc := 105) C (so_RX0 ho0) 15 fl_RX0_54 (v := .ref (w.2.1 (o0 + 15))) rfl dX0_joinCourse_105 ?_
        refine g_iload (pc := 108) C 5 rfl dX0_joinCourse_108 ?_
        refine g_iload_n (pc := 110) C 3 rfl dX0_joinCourse_110 rfl ?_
        refine g_iconst (pc := 111) (v := 2) C dX0_joinCourse_111 kc_2 ?_
        refine g_icmp_ge (pc := 112) (tgt := 120) C dX0_joinCourse_112 (by decide) (fun hc15 => ?_) (fun hc15 => ?_)
        · refine g_iload (pc := 120) C 5 rfl dX0_joinCourse_120 ?_
          refine g_iload_n (pc := 122) C 2 rfl dX0_joinCourse_122 rfl ?_
          refine g_icmp_le (pc := 123) (tgt := 133) C dX0_joinCourse_123 (by decide) (fun hc16 => ?_) (fun hc16 => ?_)
          · refine g_iload (pc := 133) C 4 rfl dX0_joinCourse_133 ?_
            refine g_iconst (pc := 135) (v := 1) C dX0_joinCourse_135 kc_1 ?_
            refine g_isub (pc := 136) C dX0_joinCourse_136 ?_
            exact j_X0_joinCourse_137 C ho0 ih x1 x2 x3 x4 x5 (x4 - (1 : Int32)) x5 h
          · refine g_iload (pc := 126) C 5 rfl dX0_joinCourse_126 ?_
            refine g_iconst (pc := 128) (v := 1) C dX0_joinCourse_128 kc_1 ?_
            refine g_isub (pc := 129) C dX0_joinCourse_129 ?_
            refine g_goto (pc := 130) (tgt := 137) C dX0_joinCourse_130 (by decide) ?_
            exact j_X0_joinCourse_137 C ho0 ih x1 x2 x3 x4 x5 (x5 - (1 : Int32)) x5 h
        · refine g_bipush (pc := 115) (v := -9) C dX0_joinCourse_115 kb_m9 ?_
          refine g_goto (pc := 117) (tgt := 137) C dX0_joinCourse_117 (by decide) ?_
          exact j_X0_joinCourse_137 C ho0 ih x1 x2 x3 x4 x5 (-9 : Int32) x5 h
def f_X0_joinCourse (h : TT) (o0 : Nat) (x1 : Int32) : Option TT := if inb x1 8 = true then nm (h.1 (o0 + 11) x1.toNatClampNeg) fun y2 => if inb x1 8 = true then nm (h.1 (o0 + 3 + 2) x1.toNatClampNeg) fun y4 => nm (imin (y2 + y4) (60 : Int32)) fun y5 => f_X0_joinCourse_30 o0 KF x1 y2 y4 y5 y2 h else none else none
set_option maxRecDepth 20000 in
theorem m_X0_joinCourse {l : Launch} {w : WK} {h : TT} {o0 : Nat} {x1 : Int32} {x : TT} (hx : f_X0_joinCourse h o0 x1 = some x) (ho0 : IsB o0) : Met l yX0_joinCourse (Cond.code yX0_joinCourse cX0_joinCourse 6 none :: wsG) { frames := 1, cells := 0, slots := 0, locals := 21 } (PG w [.ref (w.2.1 (o0)), .int x1] h) (QG w (fV x)) 0 0 (AA w) := by
  refine m_entry (own := RX0) (f := fV) hx (by decide) rfl (Nat.le_of_ble_eq_true rfl) (fun p e s m args below meth c C => ?_)
  show GO p l e _ s m args below meth c w 6 fV (f_X0_joinCourse h o0 x1) 0 [(0, .ref (w.2.1 (o0))), (1, .int x1)] [] h
  unfold f_X0_joinCourse
  refine g_aload_n (pc := 0) C 0 rfl dX0_joinCourse_0 rfl ?_
  refine g_get (pc := 1) C (so_RX0 ho0) 11 fl_RX0_42 (v := .ref (w.2.1 (o0 + 11))) rfl dX0_joinCourse_1 ?_
  refine g_iload_n (pc := 4) C 1 rfl dX0_joinCourse_4 rfl ?_
  refine g_iald (pc := 5) C (siB11 ho0) dX0_joinCourse_5 (fun hb1 => ?_)
  refine g_nmi (fun y2 => ?_)
  refine g_istore_n (pc := 6) C dX0_joinCourse_6 rfl (by decide) (lv' := [(2, .int y2), (0, .ref (w.2.1 (o0))), (1, .int x1)]) rfl ?_
  refine g_aload_n (pc := 7) C 1 rfl dX0_joinCourse_7 rfl ?_
  refine g_get (pc := 8) C (so_RX0 ho0) 2 fl_RX0_21 (v := .ref (w.2.1 (o0 + 3))) rfl dX0_joinCourse_8 ?_
  refine g_get (pc := 11) C (so_RX3 (isP_B ho0)) 5 fl_RX0_101 (v := .ref (w.2.1 (o0 + 3 + 2))) rfl dX0_joinCourse_11 ?_
  refine g_iload_n (pc := 14) C 2 rfl dX0_joinCourse_14 rfl ?_
  refine g_iald (pc := 15) C (siP2 (isP_B ho0)) dX0_joinCourse_15 (fun hb3 => ?_)
  refine g_nmi (fun y4 => ?_)
  refine g_istore_n (pc := 16) C dX0_joinCourse_16 rfl (by decide) (lv' := [(3, .int y4), (2, .int y2), (0, .ref (w.2.1 (o0))), (1, .int x1)]) rfl ?_
  refine g_iload_n (pc := 17) C 1 rfl dX0_joinCourse_17 rfl ?_
  refine g_iload_n (pc := 18) C 0 rfl dX0_joinCourse_18 rfl ?_
  refine g_iadd (pc := 19) C dX0_joinCourse_19 ?_
  refine g_bipush (pc := 20) (v := 60) C dX0_joinCourse_20 kb_60 ?_
  refine g_min (pc := 22) C wm_RX0_112 wst_min wini_math wco_min (by decide) (by decide) (Nat.le_of_ble_eq_true rfl) dX0_joinCourse_22 ?_
  refine g_nmi (fun y5 => ?_)
  refine g_istore (pc := 25) C dX0_joinCourse_25 (by decide) (lv' := [(4, .int y5), (3, .int y4), (2, .int y2), (0, .ref (w.2.1 (o0))), (1, .int x1)]) rfl ?_
  refine g_iload_n (pc := 27) C 2 rfl dX0_joinCourse_27 rfl ?_
  refine g_istore (pc := 28) C dX0_joinCourse_28 (by decide) (lv' := [(5, .int y2), (4, .int y5), (3, .int y4), (2, .int y2), (0, .ref (w.2.1 (o0))), (1, .int x1)]) rfl ?_
  refine g_lv (lv' := [(0, .ref (w.2.1 (o0))), (1, .int x1), (2, .int y2), (3, .int y4), (4, .int y5), (5, .int y2)]) [4, 5, 3, 2, 1, 0] rfl ?_
  exact j_X0_joinCourse_30 C ho0 KF x1 y2 y4 y5 y2 h
/-- SnowHouse$Build.measure()V -/
def f_X0_measure_69 (o0 : Nat) (k4 : Int32 → Int32 → TT → Option TT) (x1 : Int32) (x2 : Int32) (h : TT) : Option TT := (f_X0_joinCourse h o0 x2).bind fun h6 => if inb x2 8 = true then nm (x1 + (h6.1 (o0 + 3 + 2) x2.toNatClampNeg)) fun y8 => k4 y8 (x2 + (1 : Int32)) h6 else none
set_option maxRecDepth 20000 in
theorem j_X0_measure_69 {p : Program} {l : Launch} {e : Env} {R : Room} {s : State} {m : MethodId} {args : Array Value} {below : List Frame} {meth : Method} {c : Code} {w : WK} (C : CX p R s m args meth c w RX0 cX0_measure 4 none 2 46)  {o0 : Nat} (ho0 : IsB o0) {k4 : Int32 → Int32 → TT → Option TT} (hk4 : ∀ (x1 : Int32) (x2 : Int32)  (h : TT), GO p l e R s m args below meth c w 4 fV (k4 x1 x2 h) 4 [(0, .ref (w.2.1 (o0))), (1, .int x1), (2, .int x2)] [] h) (x1 : Int32) (x2 : Int32)  (h : TT) : GO p l e R s m args below meth c w 4 fV (f_X0_measure_69 o0 k4 x1 x2 h) 69 [(0, .ref (w.2.1 (o0))), (1, .int x1), (2, .int x2)] [] h := by
  unfold f_X0_measure_69
  refine g_aload_n (pc := 69) C 0 rfl dX0_measure_69 rfl ?_
  refine g_iload_n (pc := 70) C 2 rfl dX0_measure_70 rfl ?_
  refine g_callV (pc := 71) (rest := []) (g_runV C mv_RX0_108 (fun x1 hx1 => m_X0_joinCourse hx1 ho0) (so_RX0 ho0) rfl (by decide) rfl rfl (Nat.le_of_ble_eq_true rfl) dX0_measure_71) (fun h6 => ?_)
  refine g_iload_n (pc := 74) C 1 rfl dX0_measure_74 rfl ?_
  refine g_aload_n (pc := 75) C 0 rfl dX0_measure_75 rfl ?_
  refine g_get (pc := 76) C (so_RX0 ho0) 2 fl_RX0_21 (v := .ref (w.2.1 (o0 + 3))) rfl dX0_measure_76 ?_
  refine g_get (pc := 79) C (so_RX3 (isP_B ho0)) 5 fl_RX0_101 (v := .ref (w.2.1 (o0 + 3 + 2))) rfl dX0_measure_79 ?_
  refine g_iload_n (pc := 82) C 2 rfl dX0_measure_82 rfl ?_
  refine g_iald (pc := 83) C (siP2 (isP_B ho0)) dX0_measure_83 (fun hb7 => ?_)
  refine g_iadd (pc := 84) C dX0_measure_84 ?_
  refine g_nmi (fun y8 => ?_)
  refine g_istore_n (pc := 85) C dX0_measure_85 rfl (by decide) (lv' := [(1, .int y8), (0, .ref (w.2.1 (o0))), (2, .int x2)]) rfl ?_
  refine g_iinc (pc := 86) C 2 rfl dX0_measure_86 (ki_1 _) (by decide) (lv' := [(2, .int (x2 + (1 : Int32))), (1, .int y8), (0, .ref (w.2.1 (o0)))]) rfl ?_
  refine g_goto (pc := 89) (tgt := 4) C dX0_measure_89 (by decide) ?_
  refine g_lv (lv' := [(0, .ref (w.2.1 (o0))), (1, .int y8), (2, .int (x2 + (1 : Int32)))]) [2, 1, 0] rfl ?_
  exact hk4 y8 (x2 + (1 : Int32)) h6
def f_X0_measure_24 (o0 : Nat) (k4 : Int32 → Int32 → TT → Option TT) : Nat → Int32 → Int32 → Int32 → TT → Option TT
  | 0, _, _, _, _ => none
  | n + 1, x1, x2, x3, h => if inb x2 8 = true then (if (h.1 (o0 + 3 + 2) x2.toNatClampNeg) ≤ x3 then f_X0_measure_69 o0 k4 x1 x2 h else (if (60 : Int32) ≤ (x1 + x3) then f_X0_measure_69 o0 k4 x1 x2 h else if inb (x1 + x3) 60 = true then nm (wr h (o0 + 12) (x1 + x3).toNatClampNeg x2) fun h11 => (f_X0_rest h11 o0 (x1 + x3) x2 x3).bind fun h12 => f_X0_measure_24 o0 k4 n x1 x2 (x3 + (1 : Int32)) h12 else none)) else none
set_option maxRecDepth 20000 in
theorem j_X0_measure_24 {p : Program} {l : Launch} {e : Env} {R : Room} {s : State} {m : MethodId} {args : Array Value} {below : List Frame} {meth : Method} {c : Code} {w : WK} (C : CX p R s m args meth c w RX0 cX0_measure 4 none 2 46)  {o0 : Nat} (ho0 : IsB o0) {k4 : Int32 → Int32 → TT → Option TT} (hk4 : ∀ (x1 : Int32) (x2 : Int32)  (h : TT), GO p l e R s m args below meth c w 4 fV (k4 x1 x2 h) 4 [(0, .ref (w.2.1 (o0))), (1, .int x1), (2, .int x2)] [] h) : ∀ (n : Nat) (x1 : Int32) (x2 : Int32) (x3 : Int32) (h : TT), GO p l e R s m args below meth c w 4 fV (f_X0_measure_24 o0 k4 n x1 x2 x3 h) 24 [(0, .ref (w.2.1 (o0))), (1, .int x1), (2, .int x2), (3, .int x3)] [] h := by
  intro n
  induction n with
  | zero =>
    intro x1 x2 x3 h
    exact g_none
  | succ n ih =>
    intro x1 x2 x3 h
    rw [f_X0_measure_24]
    refine g_iload_n (pc := 24) C 3 rfl dX0_measure_24 rfl ?_
    refine g_aload_n (pc := 25) C 0 rfl dX0_measure_25 rfl ?_
    refine g_get (pc := 26) C (so_RX0 ho0) 2 fl_RX0_21 (v := .ref (w.2.1 (o0 + 3))) rfl dX0_measure_26 ?_
    refine g_get (pc := 29) C (so_RX3 (isP_B ho0)) 5 fl_RX0_101 (v := .ref (w.2.1 (o0 + 3 + 2))) rfl dX0_measure_29 ?_
    refine g_iload_n (pc := 32) C 2 rfl dX0_measure_32 rfl ?_
    refine g_iald (pc := 33) C (siP2 (isP_B ho0)) dX0_measure_33 (fun hb4 => ?_)
    refine g_icmp_ge (pc := 34) (tgt := 69) C dX0_measure_34 (by decide) (fun hc5 => ?_) (fun hc5 => ?_)
    · refine g_lv (lv' := [(0, .ref (w.2.1 (o0))), (1, .int x1), (2, .int x2)]) [0, 1, 2] rfl ?_
      exact j_X0_measure_69 C ho0 hk4 x1 x2 h
    · refine g_iload_n (pc := 37) C 1 rfl dX0_measure_37 rfl ?_
      refine g_iload_n (pc := 38) C 3 rfl dX0_measure_38 rfl ?_
      refine g_iadd (pc := 39) C dX0_measure_39 ?_
      refine g_bipush (pc := 40) (v := 60) C dX0_measure_40 kb_60 ?_
      refine g_icmp_ge (pc := 42) (tgt := 69) C dX0_measure_42 (by decide) (fun hc9 => ?_) (fun hc9 => ?_)
      · refine g_lv (lv' := [(0, .ref (w.2.1 (o0))), (1, .int x1), (2, .int x2)]) [0, 1, 2] rfl ?_
        exact j_X0_measure_69 C ho0 hk4 x1 x2 h
      · refine g_aload_n (pc := 45) C 0 rfl dX0_measure_45 rfl ?_
        refine g_get (pc := 46) C (so_RX0 ho0) 12 fl_RX0_45 (v := .ref (w.2.1 (o0 + 12))) rfl dX0_measure_46 ?_
        refine g_iload_n (pc := 49) C 1 rfl dX0_measure_49 rfl ?_
        refine g_iload_n (pc := 50) C 3 rfl dX0_measure_50 rfl ?_
        refine g_iadd (pc := 51) C dX0_measure_51 ?_
        refine g_iload_n (pc := 52) C 2 rfl dX0_measure_52 rfl ?_
        refine g_iast (pc := 53) C (siB12 ho0) dX0_measure_53 (fun hb10 => ?_)
        refine g_nm (fun h11 => ?_)
        refine g_aload_n (pc := 54) C 0 rfl dX0_measure_54 rfl ?_
        refine g_iload_n (pc := 55) C 1 rfl dX0_measure_55 rfl ?_
        refine g_iload_n (pc := 56) C 3 rfl dX0_measure_56 rfl ?_
        refine g_iadd (pc := 57) C dX0_measure_57 ?_
        refine g_iload_n (pc := 58) C 2 rfl dX0_measure_58 rfl ?_
        refine g_iload_n (pc := 59) C 3 rfl dX0_measure_59 rfl ?_
        refine g_callV (pc := 60) (rest := []) (g_runV C mv_RX0_104 (fun x1 hx1 => m_X0_rest hx1 ho0) (so_RX0 ho0) rfl (by decide) rfl rfl (Nat.le_of_ble_eq_true rfl) dX0_measure_60) (fun h12 => ?_)
        refine g_iinc (pc := 63) C 3 rfl dX0_measure_63 (ki_1 _) (by decide) (lv' := [(3, .int (x3 + (1 : Int32))), (0, .ref (w.2.1 (o0))), (1, .int x1), (2, .int x2)]) rfl ?_
        refine g_goto (pc := 66) (tgt := 24) C dX0_measure_66 (by decide) ?_
        refine g_lv (lv' := [(0, .ref (w.2.1 (o0))), (1, .int x1), (2, .int x2), (3, .int (x3 + (1 : Int32)))]) [1, 2, 3, 0] rfl ?_
        exact ih x1 x2 (x3 + (1 : Int32)) h12
def f_X0_measure_4 (o0 : Nat)  : Nat → Int32 → Int32 → TT → Option TT
  | 0, _, _, _ => none
  | n + 1, x1, x2, h => (if (h.1 (o0 + 3) 1) ≤ x2 then some h else if inb x2 8 = true then nm (wr h (o0 + 11) x2.toNatClampNeg x1) fun h3 => f_X0_measure_24 o0 (f_X0_measure_4 o0 n) KF x1 x2 (0 : Int32) h3 else none)
set_option maxRecDepth 20000 in
theorem j_X0_measure_4 {p : Program} {l : Launch} {e : Env} {R : Room} {s : State} {m : MethodId} {args : Array Value} {below : List Frame} {meth : Method} {c : Code} {w : WK} (C : CX p R s m args meth c w RX0 cX0_measure 4 none 2 46)  {o0 : Nat} (ho0 : IsB o0)  : ∀ (n : Nat) (x1 : Int32) (x2 : Int32) (h : TT), GO p l e R s m args below meth c w 4 fV (f_X0_measure_4 o0 n x1 x2 h) 4 [(0, .ref (w.2.1 (o0))), (1, .int x1), (2, .int x2)] [] h := by
  intro n
  induction n with
  | zero =>
    intro x1 x2 h
    exact g_none
  | succ n ih =>
    intro x1 x2 h
    rw [f_X0_measure_4]
    refine g_iload_n (pc := 4) C 2 rfl dX0_measure_4 rfl ?_
    refine g_aload_n (pc := 5) C 0 rfl dX0_measure_5 rfl ?_
    refine g_get (pc := 6) C (so_RX0 ho0) 2 fl_RX0_21 (v := .ref (w.2.1 (o0 + 3))) rfl dX0_measure_6 ?_
    refine g_get (pc := 9) C (so_RX3 (isP_B ho0)) 1 fl_RX0_98 (v := .int (h.1 (o0 + 3) 1)) rfl dX0_measure_9 ?_
    refine g_icmp_ge (pc := 12) (tgt := 92) C dX0_measure_12 (by decide) (fun hc1 => ?_) (fun hc1 => ?_)
    · exact g_vret C dX0_measure_92
    · refine g_aload_n (pc := 15) C 0 rfl dX0_measure_15 rfl ?_
      refine g_get (pc := 16) C (so_RX0 ho0) 11 fl_RX0_42 (v := .ref (w.2.1 (o0 + 11))) rfl dX0_measure_16 ?_
      refine g_iload_n (pc := 19) C 2 rfl dX0_measure_19 rfl ?_
      refine g_iload_n (pc := 20) C 1 rfl dX0_measure_20 rfl ?_
      refine g_iast (pc := 21) C (siB11 ho0) dX0_measure_21 (fun hb2 => ?_)
      refine g_nm (fun h3 => ?_)
      refine g_iconst (pc := 22) (v := 0) C dX0_measure_22 kc_0 ?_
      refine g_istore_n (pc := 23) C dX0_measure_23 rfl (by decide) (lv' := [(3, .int (0 : Int32)), (0, .ref (w.2.1 (o0))), (1, .int x1), (2, .int x2)]) rfl ?_
      refine g_lv (lv' := [(0, .ref (w.2.1 (o0))), (1, .int x1), (2, .int x2), (3, .int (0 : Int32))]) [1, 2, 3, 0] rfl ?_
      exact j_X0_measure_24 C ho0 ih KF x1 x2 (0 : Int32) h3
def f_X0_measure (h : TT) (o0 : Nat) : Option TT := f_X0_measure_4 o0 KF (0 : Int32) (0 : Int32) h
set_option maxRecDepth 20000 in
theorem m_X0_measure {l : Launch} {w : WK} {h : TT} {o0 : Nat} {x : TT} (hx : f_X0_measure h o0 = some x) (ho0 : IsB o0) : Met l yX0_measure (Cond.code yX0_measure cX0_measure 4 none :: wsG) { frames := 2, cells := 0, slots := 0, locals := 46 } (PG w [.ref (w.2.1 (o0))] h) (QG w (fV x)) 0 0 (AA w) := by
  refine m_entry (own := RX0) (f := fV) hx (by decide) rfl (Nat.le_of_ble_eq_true rfl) (fun p e s m args below meth c C => ?_)
  show GO p l e _ s m args below meth c w 4 fV (f_X0_measure h o0) 0 [(0, .ref (w.2.1 (o0)))] [] h
  unfold f_X0_measure
  refine g_iconst (pc := 0) (v := 0) C dX0_measure_0 kc_0 ?_
  refine g_istore_n (pc := 1) C dX0_measure_1 rfl (by decide) (lv' := [(1, .int (0 : Int32)), (0, .ref (w.2.1 (o0)))]) rfl ?_
  refine g_iconst (pc := 2) (v := 0) C dX0_measure_2 kc_0 ?_
  refine g_istore_n (pc := 3) C dX0_measure_3 rfl (by decide) (lv' := [(2, .int (0 : Int32)), (1, .int (0 : Int32)), (0, .ref (w.2.1 (o0)))]) rfl ?_
  refine g_lv (lv' := [(0, .ref (w.2.1 (o0))), (1, .int (0 : Int32)), (2, .int (0 : Int32))]) [2, 1, 0] rfl ?_
  exact j_X0_measure_4 C ho0 KF (0 : Int32) (0 : Int32) h
/-- SnowHouse$Build.clear()V -/
def f_X0_clear (h : TT) (o0 : Nat) : Option TT := nm (wr h o0 4 (0 : Int32)) fun h1 => nm (wr h1 o0 5 (0 : Int32)) fun h2 => nm (wr h2 o0 6 (-1 : Int32)) fun h3 => (f_J7_fill_53178 h3 (o0 + 7) 60 (0 : Int32)).bind fun h4 => (f_J7_fill_53178 h4 (o0 + 8) 60 (-9 : Int32)).bind fun h5 => (f_J7_fill_53178 h5 (o0 + 9) 60 (0 : Int32)).bind fun h6 => (f_J7_fill_53178 h6 (o0 + 10) 8 (0 : Int32)).bind fun h7 => some h7
set_option maxRecDepth 20000 in
theorem m_X0_clear {l : Launch} {w : WK} {h : TT} {o0 : Nat} {x : TT} (hx : f_X0_clear h o0 = some x) (ho0 : IsB o0) : Met l yX0_clear (Cond.code yX0_clear cX0_clear 1 none :: wsG) { frames := 1, cells := 0, slots := 0, locals := 23 } (PG w [.ref (w.2.1 (o0))] h) (QG w (fV x)) 0 0 (AA w) := by
  refine m_entry (own := RX0) (f := fV) hx (by decide) rfl (Nat.le_of_ble_eq_true rfl) (fun p e s m args below meth c C => ?_)
  show GO p l e _ s m args below meth c w 1 fV (f_X0_clear h o0) 0 [(0, .ref (w.2.1 (o0)))] [] h
  unfold f_X0_clear
  refine g_aload_n (pc := 0) C 0 rfl dX0_clear_0 rfl ?_
  refine g_iconst (pc := 1) (v := 0) C dX0_clear_1 kc_0 ?_
  refine g_putI (pc := 2) C (so_RX0 ho0) 4 fp_RX0_80 (se_RX0_4 _) rfl rfl (sl_RX0_4) dX0_clear_2 ?_
  refine g_nm (fun h1 => ?_)
  refine g_aload_n (pc := 5) C 0 rfl dX0_clear_5 rfl ?_
  refine g_iconst (pc := 6) (v := 0) C dX0_clear_6 kc_0 ?_
  refine g_putI (pc := 7) C (so_RX0 ho0) 5 fp_RX0_83 (se_RX0_5 _) rfl rfl (sl_RX0_5) dX0_clear_7 ?_
  refine g_nm (fun h2 => ?_)
  refine g_aload_n (pc := 10) C 0 rfl dX0_clear_10 rfl ?_
  refine g_iconst (pc := 11) (v := -1) C dX0_clear_11 kc_m1 ?_
  refine g_putI (pc := 12) C (so_RX0 ho0) 6 fp_RX0_25 (se_RX0_6 _) rfl rfl (sl_RX0_6) dX0_clear_12 ?_
  refine g_nm (fun h3 => ?_)
  refine g_aload_n (pc := 15) C 0 rfl dX0_clear_15 rfl ?_
  refine g_get (pc := 16) C (so_RX0 ho0) 7 fl_RX0_29 (v := .ref (w.2.1 (o0 + 7))) rfl dX0_clear_16 ?_
  refine g_iconst (pc := 19) (v := 0) C dX0_clear_19 kc_0 ?_
  refine g_callV (pc := 20) (rest := []) (g_runS C ms_RX0_92 (fun x1 hx1 => m_J7_fill_53178 hx1 (siB7 ho0)) (by decide) rfl rfl (Nat.le_of_ble_eq_true rfl) dX0_clear_20) (fun h4 => ?_)
  refine g_aload_n (pc := 23) C 0 rfl dX0_clear_23 rfl ?_
  refine g_get (pc := 24) C (so_RX0 ho0) 8 fl_RX0_33 (v := .ref (w.2.1 (o0 + 8))) rfl dX0_clear_24 ?_
  refine g_bipush (pc := 27) (v := -9) C dX0_clear_27 kb_m9 ?_
  refine g_callV (pc := 29) (rest := []) (g_runS C ms_RX0_92 (fun x1 hx1 => m_J7_fill_53178 hx1 (siB8 ho0)) (by decide) rfl rfl (Nat.le_of_ble_eq_true rfl) dX0_clear_29) (fun h5 => ?_)
  refine g_aload_n (pc := 32) C 0 rfl dX0_clear_32 rfl ?_
  refine g_get (pc := 33) C (so_RX0 ho0) 9 fl_RX0_36 (v := .ref (w.2.1 (o0 + 9))) rfl dX0_clear_33 ?_
  refine g_iconst (pc := 36) (v := 0) C dX0_clear_36 kc_0 ?_
  refine g_callV (pc := 37) (rest := []) (g_runS C ms_RX0_92 (fun x1 hx1 => m_J7_fill_53178 hx1 (siB9 ho0)) (by decide) rfl rfl (Nat.le_of_ble_eq_true rfl) dX0_clear_37) (fun h6 => ?_)
  refine g_aload_n (pc := 40) C 0 rfl dX0_clear_40 rfl ?_
  refine g_get (pc := 41) C (so_RX0 ho0) 10 fl_RX0_39 (v := .ref (w.2.1 (o0 + 10))) rfl dX0_clear_41 ?_
  refine g_iconst (pc := 44) (v := 0) C dX0_clear_44 kc_0 ?_
  refine g_callV (pc := 45) (rest := []) (g_runS C ms_RX0_92 (fun x1 hx1 => m_J7_fill_53178 hx1 (siB10 ho0)) (by decide) rfl rfl (Nat.le_of_ble_eq_true rfl) dX0_clear_45) (fun h7 => ?_)
  exact g_vret C dX0_clear_48
/-- SnowHouse$Build.begin(LSnowHouse$Snow;LSnowHouse$Plan;I)V -/
def f_X0_begin (h : TT) (o0 : Nat) (o1 : Nat) (o2 : Nat) (x3 : Int32) : Option TT := nm (wr h o0 0 (1 : Int32)) fun h1 => (f_X5_takeFrom h1 (o0 + 1) o1).bind fun h2 => (f_X3_takeFrom h2 (o0 + 3) o2).bind fun h3 => nm (wr h3 o0 3 x3) fun h4 => (f_X0_measure h4 o0).bind fun h5 => (f_X0_clear h5 o0).bind fun h6 => some h6
set_option maxRecDepth 20000 in
theorem m_X0_begin {l : Launch} {w : WK} {h : TT} {o0 : Nat} {o1 : Nat} {o2 : Nat} {x3 : Int32} {x : TT} (hx : f_X0_begin h o0 o1 o2 x3 = some x) (ho0 : IsB o0) (ho1 : IsS o1) (ho2 : IsP o2) : Met l yX0_begin (Cond.code yX0_begin cX0_begin 4 none :: wsG) { frames := 3, cells := 0, slots := 0, locals := 69 } (PG w [.ref (w.2.1 (o0)), .ref (w.2.1 (o1)), .ref (w.2.1 (o2)), .int x3] h) (QG w (fV x)) 0 0 (AA w) := by
  refine m_entry (own := RX0) (f := fV) hx (by decide) rfl (Nat.le_of_ble_eq_true rfl) (fun p e s m args below meth c C => ?_)
  show GO p l e _ s m args below meth c w 4 fV (f_X0_begin h o0 o1 o2 x3) 0 [(0, .ref (w.2.1 (o0))), (1, .ref (w.2.1 (o1))), (2, .ref (w.2.1 (o2))), (3, .int x3)] [] h
  unfold f_X0_begin
  refine g_aload_n (pc := 0) C 0 rfl dX0_begin_0 rfl ?_
  refine g_iconst (pc := 1) (v := 1) C dX0_begin_1 kc_1 ?_
  refine g_putI (pc := 2) C (so_RX0 ho0) 0 fp_RX0_60 (se_RX0_0 _) rfl rfl (sl_RX0_0) dX0_begin_2 ?_
  refine g_nm (fun h1 => ?_)
  refine g_aload_n (pc := 5) C 0 rfl dX0_begin_5 rfl ?_
  refine g_get (pc := 6) C (so_RX0 ho0) 1 fl_RX0_12 (v := .ref (w.2.1 (o0 + 1))) rfl dX0_begin_6 ?_
  refine g_aload_n (pc := 9) C 1 rfl dX0_begin_9 rfl ?_
  refine g_callV (pc := 10) (rest := []) (g_runV C mv_RX0_64 (fun x1 hx1 => m_X5_takeFrom hx1 (isS_B ho0) ho1) (so_RX5 (isS_B ho0)) rfl (by decide) rfl rfl (Nat.le_of_ble_eq_true rfl) dX0_begin_10) (fun h2 => ?_)
  refine g_aload_n (pc := 13) C 0 rfl dX0_begin_13 rfl ?_
  refine g_get (pc := 14) C (so_RX0 ho0) 2 fl_RX0_21 (v := .ref (w.2.1 (o0 + 3))) rfl dX0_begin_14 ?_
  refine g_aload_n (pc := 17) C 2 rfl dX0_begin_17 rfl ?_
  refine g_callV (pc := 18) (rest := []) (g_runV C mv_RX0_68 (fun x1 hx1 => m_X3_takeFrom hx1 (isP_B ho0) ho2) (so_RX3 (isP_B ho0)) rfl (by decide) rfl rfl (Nat.le_of_ble_eq_true rfl) dX0_begin_18) (fun h3 => ?_)
  refine g_aload_n (pc := 21) C 0 rfl dX0_begin_21 rfl ?_
  refine g_iload_n (pc := 22) C 3 rfl dX0_begin_22 rfl ?_
  refine g_putI (pc := 23) C (so_RX0 ho0) 3 fp_RX0_71 (se_RX0_3 _) rfl rfl (sl_RX0_3) dX0_begin_23 ?_
  refine g_nm (fun h4 => ?_)
  refine g_aload_n (pc := 26) C 0 rfl dX0_begin_26 rfl ?_
  refine g_callV (pc := 27) (rest := []) (g_runV C mv_RX0_74 (fun x1 hx1 => m_X0_measure hx1 ho0) (so_RX0 ho0) rfl (by decide) rfl rfl (Nat.le_of_ble_eq_true rfl) dX0_begin_27) (fun h5 => ?_)
  refine g_aload_n (pc := 30) C 0 rfl dX0_begin_30 rfl ?_
  refine g_callV (pc := 31) (rest := []) (g_runV C mv_RX0_77 (fun x1 hx1 => m_X0_clear hx1 ho0) (so_RX0 ho0) rfl (by decide) rfl rfl (Nat.le_of_ble_eq_true rfl) dX0_begin_31) (fun h6 => ?_)
  exact g_vret C dX0_begin_34
/-- SnowHouse.house(III)I -/
def f_X7_house_49    (h : TT) : Option (Int32 × TT) := (f_X7_found h (1 : Int32)).bind fun q9 => some (q9.1, q9.2)
set_option maxRecDepth 20000 in
theorem j_X7_house_49 {p : Program} {l : Launch} {e : Env} {R : Room} {s : State} {m : MethodId} {args : Array Value} {below : List Frame} {meth : Method} {c : Code} {w : WK} (C : CX p R s m args meth c w RX7 cX7_house 4 (some .int) 4 92)       (h : TT) : GO p l e R s m args below meth c w 4 fIT (f_X7_house_49 h) 49 [(0, .ref (w.2.1 (0)))] [] h := by
  unfold f_X7_house_49
  refine g_aload_n (pc := 49) C 0 rfl dX7_house_49 rfl ?_
  refine g_iconst (pc := 50) (v := 1) C dX7_house_50 kc_1 ?_
  refine g_callIT (pc := 51) (rest := []) (g_runV C mv_RX7_109 (fun x1 hx1 => m_X7_found hx1) so_RX7 rfl (by decide) rfl rfl (Nat.le_of_ble_eq_true rfl) dX7_house_51) (fun q9 => ?_)
  exact g_iretT C dX7_house_54
def f_X7_house (h : TT) (x1 : Int32) (x2 : Int32) (x3 : Int32) : Option (Int32 × TT) := (f_X7_isBelow h x1 (4 : Int32)).bind fun r1 => (if r1 = 0 then some ((-1 : Int32), h) else (f_X7_isBelow h x2 (4 : Int32)).bind fun r3 => (if r3 = 0 then some ((-1 : Int32), h) else (f_X7_areBuilders h x3).bind fun r5 => (if r5 = 0 then some ((-1 : Int32), h) else if inb x1 4 = true then (if (h.1 (16 + 2 * x1.toNatClampNeg) 0) = 0 then f_X7_house_49 h else if inb x2 4 = true then (if (h.1 (25 + 4 * x2.toNatClampNeg) 0) = 0 then f_X7_house_49 h else if inb x1 4 = true then if inb x2 4 = true then (f_X0_begin h 41 (16 + 2 * x1.toNatClampNeg) (25 + 4 * x2.toNatClampNeg) x3).bind fun h14 => some (h14.1 (41 + 3) 2, h14) else none else none) else none) else none)))
set_option maxRecDepth 20000 in
theorem m_X7_house {l : Launch} {w : WK} {h : TT} {x1 : Int32} {x2 : Int32} {x3 : Int32} {x : (Int32 × TT)} (hx : f_X7_house h x1 x2 x3 = some x)  : Met l yX7_house (Cond.code yX7_house cX7_house 4 (some .int) :: wsG) { frames := 4, cells := 0, slots := 0, locals := 92 } (PG w [.ref (w.2.1 (0)), .int x1, .int x2, .int x3] h) (QG w (fIT x)) 0 0 (AA w) := by
  refine m_entry (own := RX7) (f := fIT) hx (by decide) rfl (Nat.le_of_ble_eq_true rfl) (fun p e s m args below meth c C => ?_)
  show GO p l e _ s m args below meth c w 4 fIT (f_X7_house h x1 x2 x3) 0 [(0, .ref (w.2.1 (0))), (1, .int x1), (2, .int x2), (3, .int x3)] [] h
  unfold f_X7_house
  refine g_iload_n (pc := 0) C 1 rfl dX7_house_0 rfl ?_
  refine g_iconst (pc := 1) (v := 4) C dX7_house_1 kc_4 ?_
  refine g_callI (pc := 2) (rest := []) (g_runS C ms_RX7_105 (fun x1 hx1 => m_X7_isBelow hx1) (by decide) rfl rfl (Nat.le_of_ble_eq_true rfl) dX7_house_2) (fun r1 => ?_)
  refine g_if_eq (pc := 5) (tgt := 23) C dX7_house_5 (by decide) (fun hc2 => ?_) (fun hc2 => ?_)
  · refine g_iconst (pc := 23) (v := -1) C dX7_house_23 kc_m1 ?_
    exact g_iretT C dX7_house_24
  · refine g_iload_n (pc := 8) C 2 rfl dX7_house_8 rfl ?_
    refine g_iconst (pc := 9) (v := 4) C dX7_house_9 kc_4 ?_
    refine g_callI (pc := 10) (rest := []) (g_runS C ms_RX7_105 (fun x1 hx1 => m_X7_isBelow hx1) (by decide) rfl rfl (Nat.le_of_ble_eq_true rfl) dX7_house_10) (fun r3 => ?_)
    refine g_if_eq (pc := 13) (tgt := 23) C dX7_house_13 (by decide) (fun hc4 => ?_) (fun hc4 => ?_)
    · refine g_iconst (pc := 23) (v := -1) C dX7_house_23 kc_m1 ?_
      exact g_iretT C dX7_house_24
    · refine g_iload_n (pc := 16) C 3 rfl dX7_house_16 rfl ?_
      refine g_callI (pc := 17) (rest := []) (g_runS C ms_RX7_177 (fun x1 hx1 => m_X7_areBuilders hx1) (by decide) rfl rfl (Nat.le_of_ble_eq_true rfl) dX7_house_17) (fun r5 => ?_)
      refine g_if_ne (pc := 20) (tgt := 25) C dX7_house_20 (by decide) (fun hc6 => ?_) (fun hc6 => ?_)
      · refine g_iconst (pc := 23) (v := -1) C dX7_house_23 kc_m1 ?_
        exact g_iretT C dX7_house_24
      · refine g_aload_n (pc := 25) C 0 rfl dX7_house_25 rfl ?_
        refine g_get (pc := 26) C so_RX7 4 fl_RX7_34 (v := .ref (w.2.1 (15))) rfl dX7_house_26 ?_
        refine g_iload_n (pc := 29) C 1 rfl dX7_house_29 rfl ?_
        refine g_aald (pc := 30) (cA := 0) C sr_snows rfl rfl dX7_house_30 (fun hb7 => ?_)
        refine g_get (pc := 31) C (so_RX5 (isSn hb7)) 0 fl_RX7_157 (v := .int (h.1 (16 + 2 * x1.toNatClampNeg) 0)) rfl dX7_house_31 ?_
        refine g_if_eq (pc := 34) (tgt := 49) C dX7_house_34 (by decide) (fun hc8 => ?_) (fun hc8 => ?_)
        · refine g_lv (lv' := [(0, .ref (w.2.1 (0)))]) [0] rfl ?_
          exact j_X7_house_49 C h
        · refine g_aload_n (pc := 37) C 0 rfl dX7_house_37 rfl ?_
          refine g_get (pc := 38) C so_RX7 5 fl_RX7_41 (v := .ref (w.2.1 (24))) rfl dX7_house_38 ?_
          refine g_iload_n (pc := 41) C 2 rfl dX7_house_41 rfl ?_
          refine g_aald (pc := 42) (cA := 0) C sr_plans rfl rfl dX7_house_42 (fun hb10 => ?_)
          refine g_get (pc := 43) C (so_RX3 (isPl hb10)) 0 fl_RX7_164 (v := .int (h.1 (25 + 4 * x2.toNatClampNeg) 0)) rfl dX7_house_43 ?_
          refine g_if_ne (pc := 46) (tgt := 55) C dX7_house_46 (by decide) (fun hc11 => ?_) (fun hc11 => ?_)
          · refine g_lv (lv' := [(0, .ref (w.2.1 (0)))]) [0] rfl ?_
            exact j_X7_house_49 C h
          · refine g_aload_n (pc := 55) C 0 rfl dX7_house_55 rfl ?_
            refine g_get (pc := 56) C so_RX7 6 fl_RX7_49 (v := .ref (w.2.1 (41))) rfl dX7_house_56 ?_
            refine g_aload_n (pc := 59) C 0 rfl dX7_house_59 rfl ?_
            refine g_get (pc := 60) C so_RX7 4 fl_RX7_34 (v := .ref (w.2.1 (15))) rfl dX7_house_60 ?_
            refine g_iload_n (pc := 63) C 1 rfl dX7_house_63 rfl ?_
            refine g_aald (pc := 64) (cA := 0) C sr_snows rfl rfl dX7_house_64 (fun hb12 => ?_)
            refine g_aload_n (pc := 65) C 0 rfl dX7_house_65 rfl ?_
            refine g_get (pc := 66) C so_RX7 5 fl_RX7_41 (v := .ref (w.2.1 (24))) rfl dX7_house_66 ?_
            refine g_iload_n (pc := 69) C 2 rfl dX7_house_69 rfl ?_
            refine g_aald (pc := 70) (cA := 0) C sr_plans rfl rfl dX7_house_70 (fun hb13 => ?_)
            refine g_iload_n (pc := 71) C 3 rfl dX7_house_71 rfl ?_
            refine g_callV (pc := 72) (rest := []) (g_runV C mv_RX7_181 (fun x1 hx1 => m_X0_begin hx1 isB41 (isSn hb12) (isPl hb13)) (so_RX0 isB41) rfl (by decide) rfl rfl (Nat.le_of_ble_eq_true rfl) dX7_house_72) (fun h14 => ?_)
            refine g_aload_n (pc := 75) C 0 rfl dX7_house_75 rfl ?_
            refine g_get (pc := 76) C so_RX7 6 fl_RX7_49 (v := .ref (w.2.1 (41))) rfl dX7_house_76 ?_
            refine g_get (pc := 79) C (so_RX0 isB41) 2 fl_RX7_185 (v := .ref (w.2.1 (41 + 3))) rfl dX7_house_79 ?_
            refine g_get (pc := 82) C (so_RX3 (isP_B isB41)) 2 fl_RX7_154 (v := .int (h14.1 (41 + 3) 2)) rfl dX7_house_82 ?_
            exact g_iretT C dX7_house_85
/-- SnowHouse$Build.load(II)V -/
def f_X0_load_29 (o0 : Nat)  (x2 : Int32) (x3 : Int32) (x4 : Int32) (h : TT) : Option TT := (if x4 < 0 then some h else (if x4 = x3 then some h else if inb x4 60 = true then if inb x4 60 = true then nm (wr h (o0 + 9) x4.toNatClampNeg ((h.1 (o0 + 9) x4.toNatClampNeg) + x2)) fun h10 => some h10 else none else none))
set_option maxRecDepth 20000 in
theorem j_X0_load_29 {p : Program} {l : Launch} {e : Env} {R : Room} {s : State} {m : MethodId} {args : Array Value} {below : List Frame} {meth : Method} {c : Code} {w : WK} (C : CX p R s m args meth c w RX0 cX0_load 5 none 0 0)  {o0 : Nat} (ho0 : IsB o0)  (x2 : Int32) (x3 : Int32) (x4 : Int32)  (h : TT) : GO p l e R s m args below meth c w 5 fV (f_X0_load_29 o0 x2 x3 x4 h) 29 [(0, .ref (w.2.1 (o0))), (2, .int x2), (3, .int x3), (4, .int x4)] [] h := by
  unfold f_X0_load_29
  refine g_iload (pc := 29) C 3 rfl dX0_load_29 ?_
  refine g_if_lt (pc := 31) (tgt := 51) C dX0_load_31 (by decide) (fun hc6 => ?_) (fun hc6 => ?_)
  · exact g_vret C dX0_load_51
  · refine g_iload (pc := 34) C 3 rfl dX0_load_34 ?_
    refine g_iload_n (pc := 36) C 2 rfl dX0_load_36 rfl ?_
    refine g_icmp_eq (pc := 37) (tgt := 51) C dX0_load_37 (by decide) (fun hc7 => ?_) (fun hc7 => ?_)
    · exact g_vret C dX0_load_51
    · refine g_aload_n (pc := 40) C 0 rfl dX0_load_40 rfl ?_
      refine g_get (pc := 41) C (so_RX0 ho0) 9 fl_RX0_36 (v := .ref (w.2.1 (o0 + 9))) rfl dX0_load_41 ?_
      refine g_iload (pc := 44) C 3 rfl dX0_load_44 ?_
      refine g_dup2 (pc := 46) C dX0_load_46 rfl rfl ?_
      refine g_iald (pc := 47) C (siB9 ho0) dX0_load_47 (fun hb8 => ?_)
      refine g_iload_n (pc := 48) C 1 rfl dX0_load_48 rfl ?_
      refine g_iadd (pc := 49) C dX0_load_49 ?_
      refine g_iast (pc := 50) C (siB9 ho0) dX0_load_50 (fun hb9 => ?_)
      refine g_nm (fun h10 => ?_)
      exact g_vret C dX0_load_51
def f_X0_load (h : TT) (o0 : Nat) (x1 : Int32) (x2 : Int32) : Option TT := if inb x1 60 = true then nm (h.1 (o0 + 13) x1.toNatClampNeg) fun y2 => if inb x1 60 = true then nm (h.1 (o0 + 14) x1.toNatClampNeg) fun y4 => (if y2 < 0 then f_X0_load_29 o0 x2 y2 y4 h else if inb y2 60 = true then if inb y2 60 = true then nm (wr h (o0 + 9) y2.toNatClampNeg ((h.1 (o0 + 9) y2.toNatClampNeg) + x2)) fun h13 => f_X0_load_29 o0 x2 y2 y4 h13 else none else none) else none else none
set_option maxRecDepth 20000 in
theorem m_X0_load {l : Launch} {w : WK} {h : TT} {o0 : Nat} {x1 : Int32} {x2 : Int32} {x : TT} (hx : f_X0_load h o0 x1 x2 = some x) (ho0 : IsB o0) : Met l yX0_load (Cond.code yX0_load cX0_load 5 none :: wsG) { frames := 0, cells := 0, slots := 0, locals := 0 } (PG w [.ref (w.2.1 (o0)), .int x1, .int x2] h) (QG w (fV x)) 0 0 (AA w) := by
  refine m_entry (own := RX0) (f := fV) hx (by decide) rfl (Nat.le_of_ble_eq_true rfl) (fun p e s m args below meth c C => ?_)
  show GO p l e _ s m args below meth c w 5 fV (f_X0_load h o0 x1 x2) 0 [(0, .ref (w.2.1 (o0))), (1, .int x1), (2, .int x2)] [] h
  unfold f_X0_load
  refine g_aload_n (pc := 0) C 0 rfl dX0_load_0 rfl ?_
  refine g_get (pc := 1) C (so_RX0 ho0) 13 fl_RX0_48 (v := .ref (w.2.1 (o0 + 13))) rfl dX0_load_1 ?_
  refine g_iload_n (pc := 4) C 1 rfl dX0_load_4 rfl ?_
  refine g_iald (pc := 5) C (siB13 ho0) dX0_load_5 (fun hb1 => ?_)
  refine g_nmi (fun y2 => ?_)
  refine g_istore_n (pc := 6) C dX0_load_6 rfl (by decide) (lv' := [(3, .int y2), (0, .ref (w.2.1 (o0))), (1, .int x1), (2, .int x2)]) rfl ?_
  refine g_aload_n (pc := 7) C 1 rfl dX0_load_7 rfl ?_
  refine g_get (pc := 8) C (so_RX0 ho0) 14 fl_RX0_51 (v := .ref (w.2.1 (o0 + 14))) rfl dX0_load_8 ?_
  refine g_iload_n (pc := 11) C 2 rfl dX0_load_11 rfl ?_
  refine g_iald (pc := 12) C (siB14 ho0) dX0_load_12 (fun hb3 => ?_)
  refine g_nmi (fun y4 => ?_)
  refine g_istore (pc := 13) C dX0_load_13 (by decide) (lv' := [(4, .int y4), (3, .int y2), (0, .ref (w.2.1 (o0))), (1, .int x1), (2, .int x2)]) rfl ?_
  refine g_iload_n (pc := 15) C 1 rfl dX0_load_15 rfl ?_
  refine g_if_lt (pc := 16) (tgt := 29) C dX0_load_16 (by decide) (fun hc5 => ?_) (fun hc5 => ?_)
  · refine g_lv (lv' := [(0, .ref (w.2.1 (o0))), (2, .int x2), (3, .int y2), (4, .int y4)]) [2, 4, 1, 0] rfl ?_
    exact j_X0_load_29 C ho0 x2 y2 y4 h
  · refine g_aload_n (pc := 19) C 2 rfl dX0_load_19 rfl ?_
    refine g_get (pc := 20) C (so_RX0 ho0) 9 fl_RX0_36 (v := .ref (w.2.1 (o0 + 9))) rfl dX0_load_20 ?_
    refine g_iload_n (pc := 23) C 1 rfl dX0_load_23 rfl ?_
    refine g_dup2 (pc := 24) C dX0_load_24 rfl rfl ?_
    refine g_iald (pc := 25) C (siB9 ho0) dX0_load_25 (fun hb11 => ?_)
    refine g_iload_n (pc := 26) C 4 rfl dX0_load_26 rfl ?_
    refine g_iadd (pc := 27) C dX0_load_27 ?_
    refine g_iast (pc := 28) C (siB9 ho0) dX0_load_28 (fun hb12 => ?_)
    refine g_nm (fun h13 => ?_)
    refine g_lv (lv' := [(0, .ref (w.2.1 (o0))), (2, .int x2), (3, .int y2), (4, .int y4)]) [2, 4, 1, 0] rfl ?_
    exact j_X0_load_29 C ho0 x2 y2 y4 h13
/-- SnowHouse$Build.pullOf(I)I -/
def f_X0_pullOf_83 (h : TT) (o0 : Nat)  (xs0 : Int32) (xs1 : Int32) : Option Int32 := some (xs1 + xs0)
set_option maxRecDepth 20000 in
theorem j_X0_pullOf_83 {p : Program} {l : Launch} {e : Env} {R : Room} {s : State} {m : MethodId} {args : Array Value} {below : List Frame} {meth : Method} {c : Code} {w : WK} (C : CX p R s m args meth c w RX0 cX0_pullOf 4 (some .int) 0 0) (h : TT) {o0 : Nat} (ho0 : IsB o0)  (xs0 : Int32) (xs1 : Int32)  : GO p l e R s m args below meth c w 4 (fI h) (f_X0_pullOf_83 h o0 xs0 xs1) 83 [] [.int xs0, .int xs1] h := by
  unfold f_X0_pullOf_83
  refine g_iadd (pc := 83) C dX0_pullOf_83 ?_
  exact g_iret C dX0_pullOf_84
def f_X0_pullOf_65 (h : TT) (o0 : Nat)  (x1 : Int32) (x2 : Int32) (xs0 : Int32) : Option Int32 := if inb x1 60 = true then (if xs0 = 0 then f_X0_pullOf_83 h o0 (0 : Int32) (x2 + (h.1 (o0 + 9) x1.toNatClampNeg)) else f_X0_pullOf_83 h o0 (2 : Int32) (x2 + (h.1 (o0 + 9) x1.toNatClampNeg))) else none
set_option maxRecDepth 20000 in
theorem j_X0_pullOf_65 {p : Program} {l : Launch} {e : Env} {R : Room} {s : State} {m : MethodId} {args : Array Value} {below : List Frame} {meth : Method} {c : Code} {w : WK} (C : CX p R s m args meth c w RX0 cX0_pullOf 4 (some .int) 0 0) (h : TT) {o0 : Nat} (ho0 : IsB o0)  (x1 : Int32) (x2 : Int32) (xs0 : Int32)  : GO p l e R s m args below meth c w 4 (fI h) (f_X0_pullOf_65 h o0 x1 x2 xs0) 65 [(0, .ref (w.2.1 (o0))), (1, .int x1), (2, .int x2)] [.int xs0] h := by
  unfold f_X0_pullOf_65
  refine g_istore_n (pc := 65) C dX0_pullOf_65 rfl (by decide) (lv' := [(3, .int xs0), (0, .ref (w.2.1 (o0))), (1, .int x1), (2, .int x2)]) rfl ?_
  refine g_iload_n (pc := 66) C 3 rfl dX0_pullOf_66 rfl ?_
  refine g_aload_n (pc := 67) C 1 rfl dX0_pullOf_67 rfl ?_
  refine g_get (pc := 68) C (so_RX0 ho0) 9 fl_RX0_36 (v := .ref (w.2.1 (o0 + 9))) rfl dX0_pullOf_68 ?_
  refine g_iload_n (pc := 71) C 2 rfl dX0_pullOf_71 rfl ?_
  refine g_iald (pc := 72) C (siB9 ho0) dX0_pullOf_72 (fun hb6 => ?_)
  refine g_iadd (pc := 73) C dX0_pullOf_73 ?_
  refine g_iload_n (pc := 74) C 0 rfl dX0_pullOf_74 rfl ?_
  refine g_if_eq (pc := 75) (tgt := 82) C dX0_pullOf_75 (by decide) (fun hc7 => ?_) (fun hc7 => ?_)
  · refine g_iconst (pc := 82) (v := 0) C dX0_pullOf_82 kc_0 ?_
    refine g_lv (lv' := []) [] rfl ?_
    exact j_X0_pullOf_83 C h ho0 (0 : Int32) (x2 + (h.1 (o0 + 9) x1.toNatClampNeg))
  · refine g_iconst (pc := 78) (v := 2) C dX0_pullOf_78 kc_2 ?_
    refine g_goto (pc := 79) (tgt := 83) C dX0_pullOf_79 (by decide) ?_
    refine g_lv (lv' := []) [] rfl ?_
    exact j_X0_pullOf_83 C h ho0 (2 : Int32) (x2 + (h.1 (o0 + 9) x1.toNatClampNeg))
def f_X0_pullOf_64 (h : TT) (o0 : Nat)  (x1 : Int32) (x2 : Int32) : Option Int32 := f_X0_pullOf_65 h o0 x1 x2 (0 : Int32)
set_option maxRecDepth 20000 in
theorem j_X0_pullOf_64 {p : Program} {l : Launch} {e : Env} {R : Room} {s : State} {m : MethodId} {args : Array Value} {below : List Frame} {meth : Method} {c : Code} {w : WK} (C : CX p R s m args meth c w RX0 cX0_pullOf 4 (some .int) 0 0) (h : TT) {o0 : Nat} (ho0 : IsB o0)  (x1 : Int32) (x2 : Int32)  : GO p l e R s m args below meth c w 4 (fI h) (f_X0_pullOf_64 h o0 x1 x2) 64 [(0, .ref (w.2.1 (o0))), (1, .int x1), (2, .int x2)] [] h := by
  unfold f_X0_pullOf_64
  refine g_iconst (pc := 64) (v := 0) C dX0_pullOf_64 kc_0 ?_
  exact j_X0_pullOf_65 C h ho0 x1 x2 (0 : Int32)
def f_X0_pullOf_60 (h : TT) (o0 : Nat)  (x1 : Int32) (x2 : Int32) : Option Int32 := f_X0_pullOf_65 h o0 x1 x2 (1 : Int32)
set_option maxRecDepth 20000 in
theorem j_X0_pullOf_60 {p : Program} {l : Launch} {e : Env} {R : Room} {s : State} {m : MethodId} {args : Array Value} {below : List Frame} {meth : Method} {c : Code} {w : WK} (C : CX p R s m args meth c w RX0 cX0_pullOf 4 (some .int) 0 0) (h : TT) {o0 : Nat} (ho0 : IsB o0)  (x1 : Int32) (x2 : Int32)  : GO p l e R s m args below meth c w 4 (fI h) (f_X0_pullOf_60 h o0 x1 x2) 60 [(0, .ref (w.2.1 (o0))), (1, .int x1), (2, .int x2)] [] h := by
  unfold f_X0_pullOf_60
  refine g_iconst (pc := 60) (v := 1) C dX0_pullOf_60 kc_1 ?_
  refine g_goto (pc := 61) (tgt := 65) C dX0_pullOf_61 (by decide) ?_
  exact j_X0_pullOf_65 C h ho0 x1 x2 (1 : Int32)
def f_X0_pullOf (h : TT) (o0 : Nat) (x1 : Int32) : Option Int32 := if inb x1 60 = true then if inb (h.1 (o0 + 12) x1.toNatClampNeg) 8 = true then if inb (3 : Int32) 4 = true then nm (((h.1 (o0 + 3 + 3) (h.1 (o0 + 12) x1.toNatClampNeg).toNatClampNeg) * (h.1 (o0 + 1 + 1) (3 : Int32).toNatClampNeg)) / (2 : Int32)) fun y4 => (if (h.1 o0 6) < 0 then f_X0_pullOf_64 h o0 x1 y4 else if inb x1 60 = true then (if (h.1 (o0 + 13) x1.toNatClampNeg) = (h.1 o0 6) then f_X0_pullOf_60 h o0 x1 y4 else if inb x1 60 = true then (if (h.1 (o0 + 14) x1.toNatClampNeg) = (h.1 o0 6) then f_X0_pullOf_60 h o0 x1 y4 else f_X0_pullOf_64 h o0 x1 y4) else none) else none) else none else none else none
set_option maxRecDepth 20000 in
theorem m_X0_pullOf {l : Launch} {w : WK} {h : TT} {o0 : Nat} {x1 : Int32} {x : Int32} (hx : f_X0_pullOf h o0 x1 = some x) (ho0 : IsB o0) : Met l yX0_pullOf (Cond.code yX0_pullOf cX0_pullOf 4 (some .int) :: wsG) { frames := 0, cells := 0, slots := 0, locals := 0 } (PG w [.ref (w.2.1 (o0)), .int x1] h) (QG w ((fI h) x)) 0 0 (AA w) := by
  refine m_entry (own := RX0) (f := (fI h)) hx (by decide) rfl (Nat.le_of_ble_eq_true rfl) (fun p e s m args below meth c C => ?_)
  show GO p l e _ s m args below meth c w 4 (fI h) (f_X0_pullOf h o0 x1) 0 [(0, .ref (w.2.1 (o0))), (1, .int x1)] [] h
  unfold f_X0_pullOf
  refine g_aload_n (pc := 0) C 0 rfl dX0_pullOf_0 rfl ?_
  refine g_get (pc := 1) C (so_RX0 ho0) 2 fl_RX0_21 (v := .ref (w.2.1 (o0 + 3))) rfl dX0_pullOf_1 ?_
  refine g_get (pc := 4) C (so_RX3 (isP_B ho0)) 6 fl_RX0_152 (v := .ref (w.2.1 (o0 + 3 + 3))) rfl dX0_pullOf_4 ?_
  refine g_aload_n (pc := 7) C 0 rfl dX0_pullOf_7 rfl ?_
  refine g_get (pc := 8) C (so_RX0 ho0) 12 fl_RX0_45 (v := .ref (w.2.1 (o0 + 12))) rfl dX0_pullOf_8 ?_
  refine g_iload_n (pc := 11) C 1 rfl dX0_pullOf_11 rfl ?_
  refine g_iald (pc := 12) C (siB12 ho0) dX0_pullOf_12 (fun hb1 => ?_)
  refine g_iald (pc := 13) C (siP3 (isP_B ho0)) dX0_pullOf_13 (fun hb2 => ?_)
  refine g_aload_n (pc := 14) C 0 rfl dX0_pullOf_14 rfl ?_
  refine g_get (pc := 15) C (so_RX0 ho0) 1 fl_RX0_12 (v := .ref (w.2.1 (o0 + 1))) rfl dX0_pullOf_15 ?_
  refine g_get (pc := 18) C (so_RX5 (isS_B ho0)) 1 fl_RX0_155 (v := .ref (w.2.1 (o0 + 1 + 1))) rfl dX0_pullOf_18 ?_
  refine g_iconst (pc := 21) (v := 3) C dX0_pullOf_21 kc_3 ?_
  refine g_iald (pc := 22) C (siS (isS_B ho0)) dX0_pullOf_22 (fun hb3 => ?_)
  refine g_imul (pc := 23) C dX0_pullOf_23 ?_
  refine g_iconst (pc := 24) (v := 2) C dX0_pullOf_24 kc_2 ?_
  refine g_idiv (pc := 25) C dX0_pullOf_25 (by decide) ?_
  refine g_nmi (fun y4 => ?_)
  refine g_istore_n (pc := 26) C dX0_pullOf_26 rfl (by decide) (lv' := [(2, .int y4), (0, .ref (w.2.1 (o0))), (1, .int x1)]) rfl ?_
  refine g_aload_n (pc := 27) C 1 rfl dX0_pullOf_27 rfl ?_
  refine g_get (pc := 28) C (so_RX0 ho0) 6 fl_RX0_25 (v := .int (h.1 o0 6)) rfl dX0_pullOf_28 ?_
  refine g_if_lt (pc := 31) (tgt := 64) C dX0_pullOf_31 (by decide) (fun hc5 => ?_) (fun hc5 => ?_)
  · refine g_lv (lv' := [(0, .ref (w.2.1 (o0))), (1, .int x1), (2, .int y4)]) [1, 2, 0] rfl ?_
    exact j_X0_pullOf_64 C h ho0 x1 y4
  · refine g_aload_n (pc := 34) C 1 rfl dX0_pullOf_34 rfl ?_
    refine g_get (pc := 35) C (so_RX0 ho0) 13 fl_RX0_48 (v := .ref (w.2.1 (o0 + 13))) rfl dX0_pullOf_35 ?_
    refine g_iload_n (pc := 38) C 2 rfl dX0_pullOf_38 rfl ?_
    refine g_iald (pc := 39) C (siB13 ho0) dX0_pullOf_39 (fun hb8 => ?_)
    refine g_aload_n (pc := 40) C 1 rfl dX0_pullOf_40 rfl ?_
    refine g_get (pc := 41) C (so_RX0 ho0) 6 fl_RX0_25 (v := .int (h.1 o0 6)) rfl dX0_pullOf_41 ?_
    refine g_icmp_eq (pc := 44) (tgt := 60) C dX0_pullOf_44 (by decide) (fun hc9 => ?_) (fun hc9 => ?_)
    · refine g_lv (lv' := [(0, .ref (w.2.1 (o0))), (1, .int x1), (2, .int y4)]) [1, 2, 0] rfl ?_
      exact j_X0_pullOf_60 C h ho0 x1 y4
    · refine g_aload_n (pc := 47) C 1 rfl dX0_pullOf_47 rfl ?_
      refine g_get (pc := 48) C (so_RX0 ho0) 14 fl_RX0_51 (v := .ref (w.2.1 (o0 + 14))) rfl dX0_pullOf_48 ?_
      refine g_iload_n (pc := 51) C 2 rfl dX0_pullOf_51 rfl ?_
      refine g_iald (pc := 52) C (siB14 ho0) dX0_pullOf_52 (fun hb10 => ?_)
      refine g_aload_n (pc := 53) C 1 rfl dX0_pullOf_53 rfl ?_
      refine g_get (pc := 54) C (so_RX0 ho0) 6 fl_RX0_25 (v := .int (h.1 o0 6)) rfl dX0_pullOf_54 ?_
      refine g_icmp_ne (pc := 57) (tgt := 64) C dX0_pullOf_57 (by decide) (fun hc11 => ?_) (fun hc11 => ?_)
      · refine g_lv (lv' := [(0, .ref (w.2.1 (o0))), (1, .int x1), (2, .int y4)]) [1, 2, 0] rfl ?_
        exact j_X0_pullOf_60 C h ho0 x1 y4
      · refine g_lv (lv' := [(0, .ref (w.2.1 (o0))), (1, .int x1), (2, .int y4)]) [1, 2, 0] rfl ?_
        exact j_X0_pullOf_64 C h ho0 x1 y4
/-- SnowHouse$Build.holdOf(I)I -/
def f_X0_holdOf_209 (h : TT) (o0 : Nat)  (x5 : Int32) : Option Int32 := some x5
set_option maxRecDepth 20000 in
theorem j_X0_holdOf_209 {p : Program} {l : Launch} {e : Env} {R : Room} {s : State} {m : MethodId} {args : Array Value} {below : List Frame} {meth : Method} {c : Code} {w : WK} (C : CX p R s m args meth c w RX0 cX0_holdOf 9 (some .int) 0 0) (h : TT) {o0 : Nat} (ho0 : IsB o0)  (x5 : Int32)  : GO p l e R s m args below meth c w 9 (fI h) (f_X0_holdOf_209 h o0 x5) 209 [(5, .int x5)] [] h := by
  unfold f_X0_holdOf_209
  refine g_iload (pc := 209) C 0 rfl dX0_holdOf_209 ?_
  exact g_iret C dX0_holdOf_211
def f_X0_holdOf_188 (h : TT) (o0 : Nat)  (x1 : Int32) (x5 : Int32) : Option Int32 := (if (h.1 o0 3) = (2 : Int32) then (if x1 = ((h.1 o0 4) - (1 : Int32)) then f_X0_holdOf_209 h o0 x5 else f_X0_holdOf_209 h o0 (x5 + (1 : Int32))) else f_X0_holdOf_209 h o0 x5)
set_option maxRecDepth 20000 in
theorem j_X0_holdOf_188 {p : Program} {l : Launch} {e : Env} {R : Room} {s : State} {m : MethodId} {args : Array Value} {below : List Frame} {meth : Method} {c : Code} {w : WK} (C : CX p R s m args meth c w RX0 cX0_holdOf 9 (some .int) 0 0) (h : TT) {o0 : Nat} (ho0 : IsB o0)  (x1 : Int32) (x5 : Int32)  : GO p l e R s m args below meth c w 9 (fI h) (f_X0_holdOf_188 h o0 x1 x5) 188 [(0, .ref (w.2.1 (o0))), (1, .int x1), (5, .int x5)] [] h := by
  unfold f_X0_holdOf_188
  refine g_aload_n (pc := 188) C 0 rfl dX0_holdOf_188 rfl ?_
  refine g_get (pc := 189) C (so_RX0 ho0) 3 fl_RX0_71 (v := .int (h.1 o0 3)) rfl dX0_holdOf_189 ?_
  refine g_iconst (pc := 192) (v := 2) C dX0_holdOf_192 kc_2 ?_
  refine g_icmp_ne (pc := 193) (tgt := 209) C dX0_holdOf_193 (by decide) (fun hc22 => ?_) (fun hc22 => ?_)
  · refine g_iload_n (pc := 196) C 1 rfl dX0_holdOf_196 rfl ?_
    refine g_aload_n (pc := 197) C 0 rfl dX0_holdOf_197 rfl ?_
    refine g_get (pc := 198) C (so_RX0 ho0) 4 fl_RX0_80 (v := .int (h.1 o0 4)) rfl dX0_holdOf_198 ?_
    refine g_iconst (pc := 201) (v := 1) C dX0_holdOf_201 kc_1 ?_
    refine g_isub (pc := 202) C dX0_holdOf_202 ?_
    refine g_icmp_eq (pc := 203) (tgt := 209) C dX0_holdOf_203 (by decide) (fun hc23 => ?_) (fun hc23 => ?_)
    · refine g_lv (lv' := [(5, .int x5)]) [2] rfl ?_
      exact j_X0_holdOf_209 C h ho0 x5
    · refine g_iinc (pc := 206) C 2 rfl dX0_holdOf_206 (ki_1 _) (by decide) (lv' := [(5, .int (x5 + (1 : Int32))), (0, .ref (w.2.1 (o0))), (1, .int x1)]) rfl ?_
      refine g_lv (lv' := [(5, .int (x5 + (1 : Int32)))]) [0] rfl ?_
      exact j_X0_holdOf_209 C h ho0 (x5 + (1 : Int32))
  · refine g_lv (lv' := [(5, .int x5)]) [2] rfl ?_
    exact j_X0_holdOf_209 C h ho0 x5
def f_X0_holdOf_149 (h : TT) (o0 : Nat)  (x1 : Int32) (x2 : Int32) (x5 : Int32) (xs0 : Int32) : Option Int32 := if inb x2 8 = true then if inb x2 8 = true then (if (h.1 o0 4) < ((h.1 (o0 + 11) x2.toNatClampNeg) + (h.1 (o0 + 3 + 2) x2.toNatClampNeg)) then f_X0_holdOf_188 h o0 x1 x5 else if inb x2 8 = true then (if (h.1 (o0 + 10) x2.toNatClampNeg) = xs0 then f_X0_holdOf_188 h o0 x1 (x5 + (3 : Int32)) else f_X0_holdOf_188 h o0 x1 x5) else none) else none else none
set_option maxRecDepth 20000 in
theorem j_X0_holdOf_149 {p : Program} {l : Launch} {e : Env} {R : Room} {s : State} {m : MethodId} {args : Array Value} {below : List Frame} {meth : Method} {c : Code} {w : WK} (C : CX p R s m args meth c w RX0 cX0_holdOf 9 (some .int) 0 0) (h : TT) {o0 : Nat} (ho0 : IsB o0)  (x1 : Int32) (x2 : Int32) (x5 : Int32) (xs0 : Int32)  : GO p l e R s m args below meth c w 9 (fI h) (f_X0_holdOf_149 h o0 x1 x2 x5 xs0) 149 [(0, .ref (w.2.1 (o0))), (1, .int x1), (2, .int x2), (5, .int x5)] [.int xs0] h := by
  unfold f_X0_holdOf_149
  refine g_istore (pc := 149) C dX0_holdOf_149 (by decide) (lv' := [(8, .int xs0), (0, .ref (w.2.1 (o0))), (1, .int x1), (2, .int x2), (5, .int x5)]) rfl ?_
  refine g_aload_n (pc := 151) C 1 rfl dX0_holdOf_151 rfl ?_
  refine g_get (pc := 152) C (so_RX0 ho0) 11 fl_RX0_42 (v := .ref (w.2.1 (o0 + 11))) rfl dX0_holdOf_152 ?_
  refine g_iload_n (pc := 155) C 3 rfl dX0_holdOf_155 rfl ?_
  refine g_iald (pc := 156) C (siB11 ho0) dX0_holdOf_156 (fun hb19 => ?_)
  refine g_aload_n (pc := 157) C 1 rfl dX0_holdOf_157 rfl ?_
  refine g_get (pc := 158) C (so_RX0 ho0) 2 fl_RX0_21 (v := .ref (w.2.1 (o0 + 3))) rfl dX0_holdOf_158 ?_
  refine g_get (pc := 161) C (so_RX3 (isP_B ho0)) 5 fl_RX0_101 (v := .ref (w.2.1 (o0 + 3 + 2))) rfl dX0_holdOf_161 ?_
  refine g_iload_n (pc := 164) C 3 rfl dX0_holdOf_164 rfl ?_
  refine g_iald (pc := 165) C (siP2 (isP_B ho0)) dX0_holdOf_165 (fun hb20 => ?_)
  refine g_iadd (pc := 166) C dX0_holdOf_166 ?_
  refine g_aload_n (pc := 167) C 1 rfl dX0_holdOf_167 rfl ?_
  refine g_get (pc := 168) C (so_RX0 ho0) 4 fl_RX0_80 (v := .int (h.1 o0 4)) rfl dX0_holdOf_168 ?_
  refine g_icmp_gt (pc := 171) (tgt := 188) C dX0_holdOf_171 (by decide) (fun hc21 => ?_) (fun hc21 => ?_)
  · refine g_lv (lv' := [(0, .ref (w.2.1 (o0))), (1, .int x1), (5, .int x5)]) [1, 2, 4] rfl ?_
    exact j_X0_holdOf_188 C h ho0 x1 x5
  · refine g_aload_n (pc := 174) C 1 rfl dX0_holdOf_174 rfl ?_
    refine g_get (pc := 175) C (so_RX0 ho0) 10 fl_RX0_39 (v := .ref (w.2.1 (o0 + 10))) rfl dX0_holdOf_175 ?_
    refine g_iload_n (pc := 178) C 3 rfl dX0_holdOf_178 rfl ?_
    refine g_iald (pc := 179) C (siB10 ho0) dX0_holdOf_179 (fun hb24 => ?_)
    refine g_iload (pc := 180) C 0 rfl dX0_holdOf_180 ?_
    refine g_icmp_ne (pc := 182) (tgt := 188) C dX0_holdOf_182 (by decide) (fun hc25 => ?_) (fun hc25 => ?_)
    · refine g_iinc (pc := 185) C 4 rfl dX0_holdOf_185 (ki_3 _) (by decide) (lv' := [(5, .int (x5 + (3 : Int32))), (8, .int xs0), (0, .ref (w.2.1 (o0))), (1, .int x1), (2, .int x2)]) rfl ?_
      refine g_lv (lv' := [(0, .ref (w.2.1 (o0))), (1, .int x1), (5, .int (x5 + (3 : Int32)))]) [2, 3, 0] rfl ?_
      exact j_X0_holdOf_188 C h ho0 x1 (x5 + (3 : Int32))
    · refine g_lv (lv' := [(0, .ref (w.2.1 (o0))), (1, .int x1), (5, .int x5)]) [1, 2, 4] rfl ?_
      exact j_X0_holdOf_188 C h ho0 x1 x5
def f_X0_holdOf_134 (h : TT) (o0 : Nat)  (x1 : Int32) (x2 : Int32) (x5 : Int32) : Option Int32 := if inb x1 60 = true then (if (h.1 (o0 + 7) x1.toNatClampNeg) = (1 : Int32) then f_X0_holdOf_149 h o0 x1 x2 x5 (0 : Int32) else f_X0_holdOf_149 h o0 x1 x2 x5 (1 : Int32)) else none
set_option maxRecDepth 20000 in
theorem j_X0_holdOf_134 {p : Program} {l : Launch} {e : Env} {R : Room} {s : State} {m : MethodId} {args : Array Value} {below : List Frame} {meth : Method} {c : Code} {w : WK} (C : CX p R s m args meth c w RX0 cX0_holdOf 9 (some .int) 0 0) (h : TT) {o0 : Nat} (ho0 : IsB o0)  (x1 : Int32) (x2 : Int32) (x5 : Int32)  : GO p l e R s m args below meth c w 9 (fI h) (f_X0_holdOf_134 h o0 x1 x2 x5) 134 [(0, .ref (w.2.1 (o0))), (1, .int x1), (2, .int x2), (5, .int x5)] [] h := by
  unfold f_X0_holdOf_134
  refine g_aload_n (pc := 134) C 0 rfl dX0_holdOf_134 rfl ?_
  refine g_get (pc := 135) C (so_RX0 ho0) 7 fl_RX0_29 (v := .ref (w.2.1 (o0 + 7))) rfl dX0_holdOf_135 ?_
  refine g_iload_n (pc := 138) C 1 rfl dX0_holdOf_138 rfl ?_
  refine g_iald (pc := 139) C (siB7 ho0) dX0_holdOf_139 (fun hb17 => ?_)
  refine g_iconst (pc := 140) (v := 1) C dX0_holdOf_140 kc_1 ?_
  refine g_icmp_ne (pc := 141) (tgt := 148) C dX0_holdOf_141 (by decide) (fun hc18 => ?_) (fun hc18 => ?_)
  · refine g_iconst (pc := 144) (v := 0) C dX0_holdOf_144 kc_0 ?_
    refine g_goto (pc := 145) (tgt := 149) C dX0_holdOf_145 (by decide) ?_
    exact j_X0_holdOf_149 C h ho0 x1 x2 x5 (0 : Int32)
  · refine g_iconst (pc := 148) (v := 1) C dX0_holdOf_148 kc_1 ?_
    exact j_X0_holdOf_149 C h ho0 x1 x2 x5 (1 : Int32)
def f_X0_holdOf_115 (h : TT) (o0 : Nat)  (x1 : Int32) (x2 : Int32) (x5 : Int32) (x7 : Int32) : Option Int32 := (if x7 < 0 then f_X0_holdOf_134 h o0 x1 x2 x5 else if inb x7 60 = true then (if (h.1 (o0 + 7) x7.toNatClampNeg) = (1 : Int32) then f_X0_holdOf_134 h o0 x1 x2 (x5 + (2 : Int32)) else f_X0_holdOf_134 h o0 x1 x2 x5) else none)
set_option maxRecDepth 20000 in
theorem j_X0_holdOf_115 {p : Program} {l : Launch} {e : Env} {R : Room} {s : State} {m : MethodId} {args : Array Value} {below : List Frame} {meth : Method} {c : Code} {w : WK} (C : CX p R s m args meth c w RX0 cX0_holdOf 9 (some .int) 0 0) (h : TT) {o0 : Nat} (ho0 : IsB o0)  (x1 : Int32) (x2 : Int32) (x5 : Int32) (x7 : Int32)  : GO p l e R s m args below meth c w 9 (fI h) (f_X0_holdOf_115 h o0 x1 x2 x5 x7) 115 [(0, .ref (w.2.1 (o0))), (1, .int x1), (2, .int x2), (5, .int x5), (7, .int x7)] [] h := by
  unfold f_X0_holdOf_115
  refine g_iload (pc := 115) C 4 rfl dX0_holdOf_115 ?_
  refine g_if_lt (pc := 117) (tgt := 134) C dX0_holdOf_117 (by decide) (fun hc16 => ?_) (fun hc16 => ?_)
  · refine g_lv (lv' := [(0, .ref (w.2.1 (o0))), (1, .int x1), (2, .int x2), (5, .int x5)]) [0, 1, 2, 3] rfl ?_
    exact j_X0_holdOf_134 C h ho0 x1 x2 x5
  · refine g_aload_n (pc := 120) C 0 rfl dX0_holdOf_120 rfl ?_
    refine g_get (pc := 121) C (so_RX0 ho0) 7 fl_RX0_29 (v := .ref (w.2.1 (o0 + 7))) rfl dX0_holdOf_121 ?_
    refine g_iload (pc := 124) C 4 rfl dX0_holdOf_124 ?_
    refine g_iald (pc := 126) C (siB7 ho0) dX0_holdOf_126 (fun hb26 => ?_)
    refine g_iconst (pc := 127) (v := 1) C dX0_holdOf_127 kc_1 ?_
    refine g_icmp_ne (pc := 128) (tgt := 134) C dX0_holdOf_128 (by decide) (fun hc27 => ?_) (fun hc27 => ?_)
    · refine g_iinc (pc := 131) C 3 rfl dX0_holdOf_131 (ki_2 _) (by decide) (lv' := [(5, .int (x5 + (2 : Int32))), (0, .ref (w.2.1 (o0))), (1, .int x1), (2, .int x2), (7, .int x7)]) rfl ?_
      refine g_lv (lv' := [(0, .ref (w.2.1 (o0))), (1, .int x1), (2, .int x2), (5, .int (x5 + (2 : Int32)))]) [1, 2, 3, 0] rfl ?_
      exact j_X0_holdOf_134 C h ho0 x1 x2 (x5 + (2 : Int32))
    · refine g_lv (lv' := [(0, .ref (w.2.1 (o0))), (1, .int x1), (2, .int x2), (5, .int x5)]) [0, 1, 2, 3] rfl ?_
      exact j_X0_holdOf_134 C h ho0 x1 x2 x5
def f_X0_holdOf_77 (h : TT) (o0 : Nat)  (x1 : Int32) (x2 : Int32) (xs0 : Int32) (xs1 : Int32) : Option Int32 := nm (xs1 + xs0) fun y10 => if inb x1 60 = true then nm (h.1 (o0 + 15) x1.toNatClampNeg) fun y12 => if inb x1 60 = true then nm (h.1 (o0 + 16) x1.toNatClampNeg) fun y14 => (if y12 < 0 then f_X0_holdOf_115 h o0 x1 x2 y10 y14 else if inb y12 60 = true then (if (h.1 (o0 + 7) y12.toNatClampNeg) = (1 : Int32) then f_X0_holdOf_115 h o0 x1 x2 (y10 + (2 : Int32)) y14 else f_X0_holdOf_115 h o0 x1 x2 y10 y14) else none) else none else none
set_option maxRecDepth 20000 in
theorem j_X0_holdOf_77 {p : Program} {l : Launch} {e : Env} {R : Room} {s : State} {m : MethodId} {args : Array Value} {below : List Frame} {meth : Method} {c : Code} {w : WK} (C : CX p R s m args meth c w RX0 cX0_holdOf 9 (some .int) 0 0) (h : TT) {o0 : Nat} (ho0 : IsB o0)  (x1 : Int32) (x2 : Int32) (xs0 : Int32) (xs1 : Int32)  : GO p l e R s m args below meth c w 9 (fI h) (f_X0_holdOf_77 h o0 x1 x2 xs0 xs1) 77 [(0, .ref (w.2.1 (o0))), (1, .int x1), (2, .int x2)] [.int xs0, .int xs1] h := by
  unfold f_X0_holdOf_77
  refine g_iadd (pc := 77) C dX0_holdOf_77 ?_
  refine g_nmi (fun y10 => ?_)
  refine g_istore (pc := 78) C dX0_holdOf_78 (by decide) (lv' := [(5, .int y10), (0, .ref (w.2.1 (o0))), (1, .int x1), (2, .int x2)]) rfl ?_
  refine g_aload_n (pc := 80) C 1 rfl dX0_holdOf_80 rfl ?_
  refine g_get (pc := 81) C (so_RX0 ho0) 15 fl_RX0_54 (v := .ref (w.2.1 (o0 + 15))) rfl dX0_holdOf_81 ?_
  refine g_iload_n (pc := 84) C 2 rfl dX0_holdOf_84 rfl ?_
  refine g_iald (pc := 85) C (siB15 ho0) dX0_holdOf_85 (fun hb11 => ?_)
  refine g_nmi (fun y12 => ?_)
  refine g_istore (pc := 86) C dX0_holdOf_86 (by decide) (lv' := [(6, .int y12), (5, .int y10), (0, .ref (w.2.1 (o0))), (1, .int x1), (2, .int x2)]) rfl ?_
  refine g_aload_n (pc := 88) C 2 rfl dX0_holdOf_88 rfl ?_
  refine g_get (pc := 89) C (so_RX0 ho0) 16 fl_RX0_57 (v := .ref (w.2.1 (o0 + 16))) rfl dX0_holdOf_89 ?_
  refine g_iload_n (pc := 92) C 3 rfl dX0_holdOf_92 rfl ?_
  refine g_iald (pc := 93) C (siB16 ho0) dX0_holdOf_93 (fun hb13 => ?_)
  refine g_nmi (fun y14 => ?_)
  refine g_istore (pc := 94) C dX0_holdOf_94 (by decide) (lv' := [(7, .int y14), (6, .int y12), (5, .int y10), (0, .ref (w.2.1 (o0))), (1, .int x1), (2, .int x2)]) rfl ?_
  refine g_iload (pc := 96) C 1 rfl dX0_holdOf_96 ?_
  refine g_if_lt (pc := 98) (tgt := 115) C dX0_holdOf_98 (by decide) (fun hc15 => ?_) (fun hc15 => ?_)
  · refine g_lv (lv' := [(0, .ref (w.2.1 (o0))), (1, .int x1), (2, .int x2), (5, .int y10), (7, .int y14)]) [3, 4, 5, 2, 0] rfl ?_
    exact j_X0_holdOf_115 C h ho0 x1 x2 y10 y14
  · refine g_aload_n (pc := 101) C 3 rfl dX0_holdOf_101 rfl ?_
    refine g_get (pc := 102) C (so_RX0 ho0) 7 fl_RX0_29 (v := .ref (w.2.1 (o0 + 7))) rfl dX0_holdOf_102 ?_
    refine g_iload (pc := 105) C 1 rfl dX0_holdOf_105 ?_
    refine g_iald (pc := 107) C (siB7 ho0) dX0_holdOf_107 (fun hb28 => ?_)
    refine g_iconst (pc := 108) (v := 1) C dX0_holdOf_108 kc_1 ?_
    refine g_icmp_ne (pc := 109) (tgt := 115) C dX0_holdOf_109 (by decide) (fun hc29 => ?_) (fun hc29 => ?_)
    · refine g_iinc (pc := 112) C 2 rfl dX0_holdOf_112 (ki_2 _) (by decide) (lv' := [(5, .int (y10 + (2 : Int32))), (7, .int y14), (6, .int y12), (0, .ref (w.2.1 (o0))), (1, .int x1), (2, .int x2)]) rfl ?_
      refine g_lv (lv' := [(0, .ref (w.2.1 (o0))), (1, .int x1), (2, .int x2), (5, .int (y10 + (2 : Int32))), (7, .int y14)]) [3, 4, 5, 0, 1] rfl ?_
      exact j_X0_holdOf_115 C h ho0 x1 x2 (y10 + (2 : Int32)) y14
    · refine g_lv (lv' := [(0, .ref (w.2.1 (o0))), (1, .int x1), (2, .int x2), (5, .int y10), (7, .int y14)]) [3, 4, 5, 2, 0] rfl ?_
      exact j_X0_holdOf_115 C h ho0 x1 x2 y10 y14
def f_X0_holdOf (h : TT) (o0 : Nat) (x1 : Int32) : Option Int32 := if inb x1 60 = true then nm (h.1 (o0 + 12) x1.toNatClampNeg) fun y2 => nm ((h.1 (o0 + 3) 3) * (((h.1 o0 4) - (1 : Int32)) - x1)) fun y3 => if inb (2 : Int32) 4 = true then nm ((y3 * (h.1 (o0 + 1 + 1) (2 : Int32).toNatClampNeg)) / (20 : Int32)) fun y5 => if inb (1 : Int32) 4 = true then if inb (0 : Int32) 4 = true then (if (h.1 (o0 + 1 + 1) (0 : Int32).toNatClampNeg) ≤ y5 then if inb (0 : Int32) 4 = true then f_X0_holdOf_77 h o0 x1 y2 (h.1 (o0 + 1 + 1) (0 : Int32).toNatClampNeg) (h.1 (o0 + 1 + 1) (1 : Int32).toNatClampNeg) else none else f_X0_holdOf_77 h o0 x1 y2 y5 (h.1 (o0 + 1 + 1) (1 : Int32).toNatClampNeg)) else none else none else none else none
set_option maxRecDepth 20000 in
theorem m_X0_holdOf {l : Launch} {w : WK} {h : TT} {o0 : Nat} {x1 : Int32} {x : Int32} (hx : f_X0_holdOf h o0 x1 = some x) (ho0 : IsB o0) : Met l yX0_holdOf (Cond.code yX0_holdOf cX0_holdOf 9 (some .int) :: wsG) { frames := 0, cells := 0, slots := 0, locals := 0 } (PG w [.ref (w.2.1 (o0)), .int x1] h) (QG w ((fI h) x)) 0 0 (AA w) := by
  refine m_entry (own := RX0) (f := (fI h)) hx (by decide) rfl (Nat.le_of_ble_eq_true rfl) (fun p e s m args below meth c C => ?_)
  show GO p l e _ s m args below meth c w 9 (fI h) (f_X0_holdOf h o0 x1) 0 [(0, .ref (w.2.1 (o0))), (1, .int x1)] [] h
  unfold f_X0_holdOf
  refine g_aload_n (pc := 0) C 0 rfl dX0_holdOf_0 rfl ?_
  refine g_get (pc := 1) C (so_RX0 ho0) 12 fl_RX0_45 (v := .ref (w.2.1 (o0 + 12))) rfl dX0_holdOf_1 ?_
  refine g_iload_n (pc := 4) C 1 rfl dX0_holdOf_4 rfl ?_
  refine g_iald (pc := 5) C (siB12 ho0) dX0_holdOf_5 (fun hb1 => ?_)
  refine g_nmi (fun y2 => ?_)
  refine g_istore_n (pc := 6) C dX0_holdOf_6 rfl (by decide) (lv' := [(2, .int y2), (0, .ref (w.2.1 (o0))), (1, .int x1)]) rfl ?_
  refine g_aload_n (pc := 7) C 1 rfl dX0_holdOf_7 rfl ?_
  refine g_get (pc := 8) C (so_RX0 ho0) 2 fl_RX0_21 (v := .ref (w.2.1 (o0 + 3))) rfl dX0_holdOf_8 ?_
  refine g_get (pc := 11) C (so_RX3 (isP_B ho0)) 3 fl_RX0_158 (v := .int (h.1 (o0 + 3) 3)) rfl dX0_holdOf_11 ?_
  refine g_aload_n (pc := 14) C 1 rfl dX0_holdOf_14 rfl ?_
  refine g_get (pc := 15) C (so_RX0 ho0) 4 fl_RX0_80 (v := .int (h.1 o0 4)) rfl dX0_holdOf_15 ?_
  refine g_iconst (pc := 18) (v := 1) C dX0_holdOf_18 kc_1 ?_
  refine g_isub (pc := 19) C dX0_holdOf_19 ?_
  refine g_iload_n (pc := 20) C 2 rfl dX0_holdOf_20 rfl ?_
  refine g_isub (pc := 21) C dX0_holdOf_21 ?_
  refine g_imul (pc := 22) C dX0_holdOf_22 ?_
  refine g_nmi (fun y3 => ?_)
  refine g_istore_n (pc := 23) C dX0_holdOf_23 rfl (by decide) (lv' := [(3, .int y3), (2, .int y2), (0, .ref (w.2.1 (o0))), (1, .int x1)]) rfl ?_
  refine g_iload_n (pc := 24) C 0 rfl dX0_holdOf_24 rfl ?_
  refine g_aload_n (pc := 25) C 2 rfl dX0_holdOf_25 rfl ?_
  refine g_get (pc := 26) C (so_RX0 ho0) 1 fl_RX0_12 (v := .ref (w.2.1 (o0 + 1))) rfl dX0_holdOf_26 ?_
  refine g_get (pc := 29) C (so_RX5 (isS_B ho0)) 1 fl_RX0_155 (v := .ref (w.2.1 (o0 + 1 + 1))) rfl dX0_holdOf_29 ?_
  refine g_iconst (pc := 32) (v := 2) C dX0_holdOf_32 kc_2 ?_
  refine g_iald (pc := 33) C (siS (isS_B ho0)) dX0_holdOf_33 (fun hb4 => ?_)
  refine g_imul (pc := 34) C dX0_holdOf_34 ?_
  refine g_bipush (pc := 35) (v := 20) C dX0_holdOf_35 kb_20 ?_
  refine g_idiv (pc := 37) C dX0_holdOf_37 (by decide) ?_
  refine g_nmi (fun y5 => ?_)
  refine g_istore (pc := 38) C dX0_holdOf_38 (by decide) (lv' := [(4, .int y5), (3, .int y3), (2, .int y2), (0, .ref (w.2.1 (o0))), (1, .int x1)]) rfl ?_
  refine g_aload_n (pc := 40) C 3 rfl dX0_holdOf_40 rfl ?_
  refine g_get (pc := 41) C (so_RX0 ho0) 1 fl_RX0_12 (v := .ref (w.2.1 (o0 + 1))) rfl dX0_holdOf_41 ?_
  refine g_get (pc := 44) C (so_RX5 (isS_B ho0)) 1 fl_RX0_155 (v := .ref (w.2.1 (o0 + 1 + 1))) rfl dX0_holdOf_44 ?_
  refine g_iconst (pc := 47) (v := 1) C dX0_holdOf_47 kc_1 ?_
  refine g_iald (pc := 48) C (siS (isS_B ho0)) dX0_holdOf_48 (fun hb6 => ?_)
  refine g_iload (pc := 49) C 0 rfl dX0_holdOf_49 ?_
  refine g_aload_n (pc := 51) C 3 rfl dX0_holdOf_51 rfl ?_
  refine g_get (pc := 52) C (so_RX0 ho0) 1 fl_RX0_12 (v := .ref (w.2.1 (o0 + 1))) rfl dX0_holdOf_52 ?_
  refine g_get (pc := 55) C (so_RX5 (isS_B ho0)) 1 fl_RX0_155 (v := .ref (w.2.1 (o0 + 1 + 1))) rfl dX0_holdOf_55 ?_
  refine g_iconst (pc := 58) (v := 0) C dX0_holdOf_58 kc_0 ?_
  refine g_iald (pc := 59) C (siS (isS_B ho0)) dX0_holdOf_59 (fun hb7 => ?_)
  refine g_icmp_ge (pc := 60) (tgt := 68) C dX0_holdOf_60 (by decide) (fun hc8 => ?_) (fun hc8 => ?_)
  · refine g_aload_n (pc := 68) C 3 rfl dX0_holdOf_68 rfl ?_
    refine g_get (pc := 69) C (so_RX0 ho0) 1 fl_RX0_12 (v := .ref (w.2.1 (o0 + 1))) rfl dX0_holdOf_69 ?_
    refine g_get (pc := 72) C (so_RX5 (isS_B ho0)) 1 fl_RX0_155 (v := .ref (w.2.1 (o0 + 1 + 1))) rfl dX0_holdOf_72 ?_
    refine g_iconst (pc := 75) (v := 0) C dX0_holdOf_75 kc_0 ?_
    refine g_iald (pc := 76) C (siS (isS_B ho0)) dX0_holdOf_76 (fun hb9 => ?_)
    refine g_lv (lv' := [(0, .ref (w.2.1 (o0))), (1, .int x1), (2, .int y2)]) [3, 4, 2] rfl ?_
    exact j_X0_holdOf_77 C h ho0 x1 y2 (h.1 (o0 + 1 + 1) (0 : Int32).toNatClampNeg) (h.1 (o0 + 1 + 1) (1 : Int32).toNatClampNeg)
  · refine g_iload (pc := 63) C 0 rfl dX0_holdOf_63 ?_
    refine g_goto (pc := 65) (tgt := 77) C dX0_holdOf_65 (by decide) ?_
    refine g_lv (lv' := [(0, .ref (w.2.1 (o0))), (1, .int x1), (2, .int y2)]) [3, 4, 2] rfl ?_
    exact j_X0_holdOf_77 C h ho0 x1 y2 y5 (h.1 (o0 + 1 + 1) (1 : Int32).toNatClampNeg)
/-- SnowHouse$Build.gives(I)Z -/
def f_X0_gives_69 (h : TT) (o0 : Nat)  (x1 : Int32) : Option Int32 := (f_X0_pullOf h o0 x1).bind fun r11 => (f_X0_holdOf h o0 x1).bind fun r12 => (if r11 ≤ r12 then some (0 : Int32) else some (1 : Int32))
set_option maxRecDepth 20000 in
theorem j_X0_gives_69 {p : Program} {l : Launch} {e : Env} {R : Room} {s : State} {m : MethodId} {args : Array Value} {below : List Frame} {meth : Method} {c : Code} {w : WK} (C : CX p R s m args meth c w RX0 cX0_gives 4 (some .boolean) 1 28) (h : TT) {o0 : Nat} (ho0 : IsB o0)  (x1 : Int32)  : GO p l e R s m args below meth c w 4 (fI h) (f_X0_gives_69 h o0 x1) 69 [(0, .ref (w.2.1 (o0))), (1, .int x1)] [] h := by
  unfold f_X0_gives_69
  refine g_aload_n (pc := 69) C 0 rfl dX0_gives_69 rfl ?_
  refine g_iload_n (pc := 70) C 1 rfl dX0_gives_70 rfl ?_
  refine g_callI (pc := 71) (rest := []) (g_runV C mv_RX0_145 (fun x1 hx1 => m_X0_pullOf hx1 ho0) (so_RX0 ho0) rfl (by decide) rfl rfl (Nat.le_of_ble_eq_true rfl) dX0_gives_71) (fun r11 => ?_)
  refine g_aload_n (pc := 74) C 0 rfl dX0_gives_74 rfl ?_
  refine g_iload_n (pc := 75) C 1 rfl dX0_gives_75 rfl ?_
  refine g_callI (pc := 76) (rest := [.int r11]) (g_runV C mv_RX0_149 (fun x1 hx1 => m_X0_holdOf hx1 ho0) (so_RX0 ho0) rfl (by decide) rfl rfl (Nat.le_of_ble_eq_true rfl) dX0_gives_76) (fun r12 => ?_)
  refine g_icmp_le (pc := 79) (tgt := 86) C dX0_gives_79 (by decide) (fun hc13 => ?_) (fun hc13 => ?_)
  · refine g_iconst (pc := 86) (v := 0) C dX0_gives_86 kc_0 ?_
    exact g_zret C dX0_gives_87 rfl
  · refine g_iconst (pc := 82) (v := 1) C dX0_gives_82 kc_1 ?_
    refine g_goto (pc := 83) (tgt := 87) C dX0_gives_83 (by decide) ?_
    exact g_zret C dX0_gives_87 rfl
def f_X0_gives_53 (h : TT) (o0 : Nat)  (x1 : Int32) (x3 : Int32) : Option Int32 := (if x3 < 0 then f_X0_gives_69 h o0 x1 else if inb x3 60 = true then (if (h.1 (o0 + 7) x3.toNatClampNeg) = (2 : Int32) then some (1 : Int32) else f_X0_gives_69 h o0 x1) else none)
set_option maxRecDepth 20000 in
theorem j_X0_gives_53 {p : Program} {l : Launch} {e : Env} {R : Room} {s : State} {m : MethodId} {args : Array Value} {below : List Frame} {meth : Method} {c : Code} {w : WK} (C : CX p R s m args meth c w RX0 cX0_gives 4 (some .boolean) 1 28) (h : TT) {o0 : Nat} (ho0 : IsB o0)  (x1 : Int32) (x3 : Int32)  : GO p l e R s m args below meth c w 4 (fI h) (f_X0_gives_53 h o0 x1 x3) 53 [(0, .ref (w.2.1 (o0))), (1, .int x1), (3, .int x3)] [] h := by
  unfold f_X0_gives_53
  refine g_iload_n (pc := 53) C 2 rfl dX0_gives_53 rfl ?_
  refine g_if_lt (pc := 54) (tgt := 69) C dX0_gives_54 (by decide) (fun hc10 => ?_) (fun hc10 => ?_)
  · refine g_lv (lv' := [(0, .ref (w.2.1 (o0))), (1, .int x1)]) [0, 1] rfl ?_
    exact j_X0_gives_69 C h ho0 x1
  · refine g_aload_n (pc := 57) C 0 rfl dX0_gives_57 rfl ?_
    refine g_get (pc := 58) C (so_RX0 ho0) 7 fl_RX0_29 (v := .ref (w.2.1 (o0 + 7))) rfl dX0_gives_58 ?_
    refine g_iload_n (pc := 61) C 2 rfl dX0_gives_61 rfl ?_
    refine g_iald (pc := 62) C (siB7 ho0) dX0_gives_62 (fun hb14 => ?_)
    refine g_iconst (pc := 63) (v := 2) C dX0_gives_63 kc_2 ?_
    refine g_icmp_ne (pc := 64) (tgt := 69) C dX0_gives_64 (by decide) (fun hc15 => ?_) (fun hc15 => ?_)
    · refine g_iconst (pc := 67) (v := 1) C dX0_gives_67 kc_1 ?_
      exact g_zret C dX0_gives_68 rfl
    · refine g_lv (lv' := [(0, .ref (w.2.1 (o0))), (1, .int x1)]) [0, 1] rfl ?_
      exact j_X0_gives_69 C h ho0 x1
def f_X0_gives (h : TT) (o0 : Nat) (x1 : Int32) : Option Int32 := (f_X7_isBelow h x1 (h.1 o0 4)).bind fun r1 => (if r1 = 0 then some (0 : Int32) else if inb x1 60 = true then (if (h.1 (o0 + 7) x1.toNatClampNeg) = (1 : Int32) then if inb x1 60 = true then nm (h.1 (o0 + 13) x1.toNatClampNeg) fun y6 => if inb x1 60 = true then nm (h.1 (o0 + 14) x1.toNatClampNeg) fun y8 => (if y6 < 0 then f_X0_gives_53 h o0 x1 y8 else if inb y6 60 = true then (if (h.1 (o0 + 7) y6.toNatClampNeg) = (2 : Int32) then some (1 : Int32) else f_X0_gives_53 h o0 x1 y8) else none) else none else none else some (0 : Int32)) else none)
set_option maxRecDepth 20000 in
theorem m_X0_gives {l : Launch} {w : WK} {h : TT} {o0 : Nat} {x1 : Int32} {x : Int32} (hx : f_X0_gives h o0 x1 = some x) (ho0 : IsB o0) : Met l yX0_gives (Cond.code yX0_gives cX0_gives 4 (some .boolean) :: wsG) { frames := 1, cells := 0, slots := 0, locals := 28 } (PG w [.ref (w.2.1 (o0)), .int x1] h) (QG w ((fI h) x)) 0 0 (AA w) := by
  refine m_entry (own := RX0) (f := (fI h)) hx (by decide) rfl (Nat.le_of_ble_eq_true rfl) (fun p e s m args below meth c C => ?_)
  show GO p l e _ s m args below meth c w 4 (fI h) (f_X0_gives h o0 x1) 0 [(0, .ref (w.2.1 (o0))), (1, .int x1)] [] h
  unfold f_X0_gives
  refine g_iload_n (pc := 0) C 1 rfl dX0_gives_0 rfl ?_
  refine g_aload_n (pc := 1) C 0 rfl dX0_gives_1 rfl ?_
  refine g_get (pc := 2) C (so_RX0 ho0) 4 fl_RX0_80 (v := .int (h.1 o0 4)) rfl dX0_gives_2 ?_
  refine g_callI (pc := 5) (rest := []) (g_runN C mn_RX0_138 (fun x1 hx1 => m_X7_isBelow hx1) (by decide) rfl rfl (Nat.le_of_ble_eq_true rfl) dX0_gives_5) (fun r1 => ?_)
  refine g_if_eq (pc := 8) (tgt := 21) C dX0_gives_8 (by decide) (fun hc2 => ?_) (fun hc2 => ?_)
  · refine g_iconst (pc := 21) (v := 0) C dX0_gives_21 kc_0 ?_
    exact g_zret C dX0_gives_22 rfl
  · refine g_aload_n (pc := 11) C 0 rfl dX0_gives_11 rfl ?_
    refine g_get (pc := 12) C (so_RX0 ho0) 7 fl_RX0_29 (v := .ref (w.2.1 (o0 + 7))) rfl dX0_gives_12 ?_
    refine g_iload_n (pc := 15) C 1 rfl dX0_gives_15 rfl ?_
    refine g_iald (pc := 16) C (siB7 ho0) dX0_gives_16 (fun hb3 => ?_)
    refine g_iconst (pc := 17) (v := 1) C dX0_gives_17 kc_1 ?_
    refine g_icmp_eq (pc := 18) (tgt := 23) C dX0_gives_18 (by decide) (fun hc4 => ?_) (fun hc4 => ?_)
    · refine g_aload_n (pc := 23) C 0 rfl dX0_gives_23 rfl ?_
      refine g_get (pc := 24) C (so_RX0 ho0) 13 fl_RX0_48 (v := .ref (w.2.1 (o0 + 13))) rfl dX0_gives_24 ?_
      refine g_iload_n (pc := 27) C 1 rfl dX0_gives_27 rfl ?_
      refine g_iald (pc := 28) C (siB13 ho0) dX0_gives_28 (fun hb5 => ?_)
      refine g_nmi (fun y6 => ?_)
      refine g_istore_n (pc := 29) C dX0_gives_29 rfl (by decide) (lv' := [(2, .int y6), (0, .ref (w.2.1 (o0))), (1, .int x1)]) rfl ?_
      refine g_aload_n (pc := 30) C 1 rfl dX0_gives_30 rfl ?_
      refine g_get (pc := 31) C (so_RX0 ho0) 14 fl_RX0_51 (v := .ref (w.2.1 (o0 + 14))) rfl dX0_gives_31 ?_
      refine g_iload_n (pc := 34) C 2 rfl dX0_gives_34 rfl ?_
      refine g_iald (pc := 35) C (siB14 ho0) dX0_gives_35 (fun hb7 => ?_)
      refine g_nmi (fun y8 => ?_)
      refine g_istore_n (pc := 36) C dX0_gives_36 rfl (by decide) (lv' := [(3, .int y8), (2, .int y6), (0, .ref (w.2.1 (o0))), (1, .int x1)]) rfl ?_
      refine g_iload_n (pc := 37) C 1 rfl dX0_gives_37 rfl ?_
      refine g_if_lt (pc := 38) (tgt := 53) C dX0_gives_38 (by decide) (fun hc9 => ?_) (fun hc9 => ?_)
      · refine g_lv (lv' := [(0, .ref (w.2.1 (o0))), (1, .int x1), (3, .int y8)]) [2, 3, 0] rfl ?_
        exact j_X0_gives_53 C h ho0 x1 y8
      · refine g_aload_n (pc := 41) C 2 rfl dX0_gives_41 rfl ?_
        refine g_get (pc := 42) C (so_RX0 ho0) 7 fl_RX0_29 (v := .ref (w.2.1 (o0 + 7))) rfl dX0_gives_42 ?_
        refine g_iload_n (pc := 45) C 1 rfl dX0_gives_45 rfl ?_
        refine g_iald (pc := 46) C (siB7 ho0) dX0_gives_46 (fun hb16 => ?_)
        refine g_iconst (pc := 47) (v := 2) C dX0_gives_47 kc_2 ?_
        refine g_icmp_ne (pc := 48) (tgt := 53) C dX0_gives_48 (by decide) (fun hc17 => ?_) (fun hc17 => ?_)
        · refine g_iconst (pc := 51) (v := 1) C dX0_gives_51 kc_1 ?_
          exact g_zret C dX0_gives_52 rfl
        · refine g_lv (lv' := [(0, .ref (w.2.1 (o0))), (1, .int x1), (3, .int y8)]) [2, 3, 0] rfl ?_
          exact j_X0_gives_53 C h ho0 x1 y8
    · refine g_iconst (pc := 21) (v := 0) C dX0_gives_21 kc_0 ?_
      exact g_zret C dX0_gives_22 rfl
/-- SnowHouse$Build.slump(I)V -/
def f_X0_slump (h : TT) (o0 : Nat) (x1 : Int32) : Option TT := if inb x1 60 = true then nm (wr h (o0 + 7) x1.toNatClampNeg (2 : Int32)) fun h2 => if inb x1 60 = true then nm (wr h2 (o0 + 8) x1.toNatClampNeg ((h2.1 o0 4) - (1 : Int32))) fun h4 => nm (wr h4 o0 5 ((h4.1 o0 5) + (1 : Int32))) fun h5 => if inb x1 60 = true then if inb (h5.1 (o0 + 12) x1.toNatClampNeg) 8 = true then if inb (h5.1 (o0 + 12) x1.toNatClampNeg) 8 = true then nm (wr h5 (o0 + 10) (h5.1 (o0 + 12) x1.toNatClampNeg).toNatClampNeg ((h5.1 (o0 + 10) (h5.1 (o0 + 12) x1.toNatClampNeg).toNatClampNeg) + (1 : Int32))) fun h9 => (f_X0_load h9 o0 x1 (-1 : Int32)).bind fun h10 => some h10 else none else none else none else none else none
set_option maxRecDepth 20000 in
theorem m_X0_slump {l : Launch} {w : WK} {h : TT} {o0 : Nat} {x1 : Int32} {x : TT} (hx : f_X0_slump h o0 x1 = some x) (ho0 : IsB o0) : Met l yX0_slump (Cond.code yX0_slump cX0_slump 2 none :: wsG) { frames := 1, cells := 0, slots := 0, locals := 24 } (PG w [.ref (w.2.1 (o0)), .int x1] h) (QG w (fV x)) 0 0 (AA w) := by
  refine m_entry (own := RX0) (f := fV) hx (by decide) rfl (Nat.le_of_ble_eq_true rfl) (fun p e s m args below meth c C => ?_)
  show GO p l e _ s m args below meth c w 2 fV (f_X0_slump h o0 x1) 0 [(0, .ref (w.2.1 (o0))), (1, .int x1)] [] h
  unfold f_X0_slump
  refine g_aload_n (pc := 0) C 0 rfl dX0_slump_0 rfl ?_
  refine g_get (pc := 1) C (so_RX0 ho0) 7 fl_RX0_29 (v := .ref (w.2.1 (o0 + 7))) rfl dX0_slump_1 ?_
  refine g_iload_n (pc := 4) C 1 rfl dX0_slump_4 rfl ?_
  refine g_iconst (pc := 5) (v := 2) C dX0_slump_5 kc_2 ?_
  refine g_iast (pc := 6) C (siB7 ho0) dX0_slump_6 (fun hb1 => ?_)
  refine g_nm (fun h2 => ?_)
  refine g_aload_n (pc := 7) C 0 rfl dX0_slump_7 rfl ?_
  refine g_get (pc := 8) C (so_RX0 ho0) 8 fl_RX0_33 (v := .ref (w.2.1 (o0 + 8))) rfl dX0_slump_8 ?_
  refine g_iload_n (pc := 11) C 1 rfl dX0_slump_11 rfl ?_
  refine g_aload_n (pc := 12) C 0 rfl dX0_slump_12 rfl ?_
  refine g_get (pc := 13) C (so_RX0 ho0) 4 fl_RX0_80 (v := .int (h2.1 o0 4)) rfl dX0_slump_13 ?_
  refine g_iconst (pc := 16) (v := 1) C dX0_slump_16 kc_1 ?_
  refine g_isub (pc := 17) C dX0_slump_17 ?_
  refine g_iast (pc := 18) C (siB8 ho0) dX0_slump_18 (fun hb3 => ?_)
  refine g_nm (fun h4 => ?_)
  refine g_aload_n (pc := 19) C 0 rfl dX0_slump_19 rfl ?_
  refine g_dup (pc := 20) C dX0_slump_20 rfl ?_
  refine g_get (pc := 21) C (so_RX0 ho0) 5 fl_RX0_83 (v := .int (h4.1 o0 5)) rfl dX0_slump_21 ?_
  refine g_iconst (pc := 24) (v := 1) C dX0_slump_24 kc_1 ?_
  refine g_iadd (pc := 25) C dX0_slump_25 ?_
  refine g_putI (pc := 26) C (so_RX0 ho0) 5 fp_RX0_83 (se_RX0_5 _) rfl rfl (sl_RX0_5) dX0_slump_26 ?_
  refine g_nm (fun h5 => ?_)
  refine g_aload_n (pc := 29) C 0 rfl dX0_slump_29 rfl ?_
  refine g_get (pc := 30) C (so_RX0 ho0) 10 fl_RX0_39 (v := .ref (w.2.1 (o0 + 10))) rfl dX0_slump_30 ?_
  refine g_aload_n (pc := 33) C 0 rfl dX0_slump_33 rfl ?_
  refine g_get (pc := 34) C (so_RX0 ho0) 12 fl_RX0_45 (v := .ref (w.2.1 (o0 + 12))) rfl dX0_slump_34 ?_
  refine g_iload_n (pc := 37) C 1 rfl dX0_slump_37 rfl ?_
  refine g_iald (pc := 38) C (siB12 ho0) dX0_slump_38 (fun hb6 => ?_)
  refine g_dup2 (pc := 39) C dX0_slump_39 rfl rfl ?_
  refine g_iald (pc := 40) C (siB10 ho0) dX0_slump_40 (fun hb7 => ?_)
  refine g_iconst (pc := 41) (v := 1) C dX0_slump_41 kc_1 ?_
  refine g_iadd (pc := 42) C dX0_slump_42 ?_
  refine g_iast (pc := 43) C (siB10 ho0) dX0_slump_43 (fun hb8 => ?_)
  refine g_nm (fun h9 => ?_)
  refine g_aload_n (pc := 44) C 0 rfl dX0_slump_44 rfl ?_
  refine g_iload_n (pc := 45) C 1 rfl dX0_slump_45 rfl ?_
  refine g_iconst (pc := 46) (v := -1) C dX0_slump_46 kc_m1 ?_
  refine g_callV (pc := 47) (rest := []) (g_runV C mv_RX0_127 (fun x1 hx1 => m_X0_load hx1 ho0) (so_RX0 ho0) rfl (by decide) rfl rfl (Nat.le_of_ble_eq_true rfl) dX0_slump_47) (fun h10 => ?_)
  exact g_vret C dX0_slump_50
/-- SnowHouse$Build.settle()V -/
def f_X0_settle_46 (o0 : Nat) (k4 : Int32 → Int32 → TT → Option TT) (k25 : Int32 → Int32 → Int32 → TT → Option TT) (x1 : Int32) (x2 : Int32) (x3 : Int32) (h : TT) : Option TT := k25 x1 x2 (x3 + (1 : Int32)) h
set_option maxRecDepth 20000 in
theorem j_X0_settle_46 {p : Program} {l : Launch} {e : Env} {R : Room} {s : State} {m : MethodId} {args : Array Value} {below : List Frame} {meth : Method} {c : Code} {w : WK} (C : CX p R s m args meth c w RX0 cX0_settle 4 none 2 51)  {o0 : Nat} (ho0 : IsB o0) {k4 : Int32 → Int32 → TT → Option TT} (hk4 : ∀ (x1 : Int32) (x2 : Int32)  (h : TT), GO p l e R s m args below meth c w 4 fV (k4 x1 x2 h) 4 [(0, .ref (w.2.1 (o0))), (1, .int x1), (2, .int x2)] [] h) {k25 : Int32 → Int32 → Int32 → TT → Option TT} (hk25 : ∀ (x1 : Int32) (x2 : Int32) (x3 : Int32)  (h : TT), GO p l e R s m args below meth c w 4 fV (k25 x1 x2 x3 h) 25 [(0, .ref (w.2.1 (o0))), (1, .int x1), (2, .int x2), (3, .int x3)] [] h) (x1 : Int32) (x2 : Int32) (x3 : Int32)  (h : TT) : GO p l e R s m args below meth c w 4 fV (f_X0_settle_46 o0 k4 k25 x1 x2 x3 h) 46 [(0, .ref (w.2.1 (o0))), (1, .int x1), (2, .int x2), (3, .int x3)] [] h := by
  unfold f_X0_settle_46
  refine g_iinc (pc := 46) C 3 rfl dX0_settle_46 (ki_1 _) (by decide) (lv' := [(3, .int (x3 + (1 : Int32))), (0, .ref (w.2.1 (o0))), (1, .int x1), (2, .int x2)]) rfl ?_
  refine g_goto (pc := 49) (tgt := 25) C dX0_settle_49 (by decide) ?_
  refine g_lv (lv' := [(0, .ref (w.2.1 (o0))), (1, .int x1), (2, .int x2), (3, .int (x3 + (1 : Int32)))]) [1, 2, 3, 0] rfl ?_
  exact hk25 x1 x2 (x3 + (1 : Int32)) h
def f_X0_settle_25 (o0 : Nat) (k4 : Int32 → Int32 → TT → Option TT) : Nat → Int32 → Int32 → Int32 → TT → Option TT
  | 0, _, _, _, _ => none
  | n + 1, x1, x2, x3, h => (if (h.1 o0 4) ≤ x3 then k4 x1 (x2 + (1 : Int32)) h else (f_X0_gives h o0 x3).bind fun r5 => (if r5 = 0 then f_X0_settle_46 o0 k4 (f_X0_settle_25 o0 k4 n) x1 x2 x3 h else (f_X0_slump h o0 x3).bind fun h7 => f_X0_settle_46 o0 k4 (f_X0_settle_25 o0 k4 n) x1 x2 x3 h7))
set_option maxRecDepth 20000 in
theorem j_X0_settle_25 {p : Program} {l : Launch} {e : Env} {R : Room} {s : State} {m : MethodId} {args : Array Value} {below : List Frame} {meth : Method} {c : Code} {w : WK} (C : CX p R s m args meth c w RX0 cX0_settle 4 none 2 51)  {o0 : Nat} (ho0 : IsB o0) {k4 : Int32 → Int32 → TT → Option TT} (hk4 : ∀ (x1 : Int32) (x2 : Int32)  (h : TT), GO p l e R s m args below meth c w 4 fV (k4 x1 x2 h) 4 [(0, .ref (w.2.1 (o0))), (1, .int x1), (2, .int x2)] [] h) : ∀ (n : Nat) (x1 : Int32) (x2 : Int32) (x3 : Int32) (h : TT), GO p l e R s m args below meth c w 4 fV (f_X0_settle_25 o0 k4 n x1 x2 x3 h) 25 [(0, .ref (w.2.1 (o0))), (1, .int x1), (2, .int x2), (3, .int x3)] [] h := by
  intro n
  induction n with
  | zero =>
    intro x1 x2 x3 h
    exact g_none
  | succ n ih =>
    intro x1 x2 x3 h
    rw [f_X0_settle_25]
    refine g_iload_n (pc := 25) C 3 rfl dX0_settle_25 rfl ?_
    refine g_aload_n (pc := 26) C 0 rfl dX0_settle_26 rfl ?_
    refine g_get (pc := 27) C (so_RX0 ho0) 4 fl_RX0_80 (v := .int (h.1 o0 4)) rfl dX0_settle_27 ?_
    refine g_icmp_ge (pc := 30) (tgt := 52) C dX0_settle_30 (by decide) (fun hc4 => ?_) (fun hc4 => ?_)
    · refine g_iinc (pc := 52) C 2 rfl dX0_settle_52 (ki_1 _) (by decide) (lv' := [(2, .int (x2 + (1 : Int32))), (0, .ref (w.2.1 (o0))), (1, .int x1), (3, .int x3)]) rfl ?_
      refine g_goto (pc := 55) (tgt := 4) C dX0_settle_55 (by decide) ?_
      refine g_lv (lv' := [(0, .ref (w.2.1 (o0))), (1, .int x1), (2, .int (x2 + (1 : Int32)))]) [1, 2, 0] rfl ?_
      exact hk4 x1 (x2 + (1 : Int32)) h
    · refine g_aload_n (pc := 33) C 0 rfl dX0_settle_33 rfl ?_
      refine g_iload_n (pc := 34) C 3 rfl dX0_settle_34 rfl ?_
      refine g_callI (pc := 35) (rest := []) (g_runV C mv_RX0_131 (fun x1 hx1 => m_X0_gives hx1 ho0) (so_RX0 ho0) rfl (by decide) rfl rfl (Nat.le_of_ble_eq_true rfl) dX0_settle_35) (fun r5 => ?_)
      refine g_if_eq (pc := 38) (tgt := 46) C dX0_settle_38 (by decide) (fun hc6 => ?_) (fun hc6 => ?_)
      · exact j_X0_settle_46 C ho0 hk4 ih x1 x2 x3 h
      · refine g_aload_n (pc := 41) C 0 rfl dX0_settle_41 rfl ?_
        refine g_iload_n (pc := 42) C 3 rfl dX0_settle_42 rfl ?_
        refine g_callV (pc := 43) (rest := []) (g_runV C mv_RX0_142 (fun x1 hx1 => m_X0_slump hx1 ho0) (so_RX0 ho0) rfl (by decide) rfl rfl (Nat.le_of_ble_eq_true rfl) dX0_settle_43) (fun h7 => ?_)
        exact j_X0_settle_46 C ho0 hk4 ih x1 x2 x3 h7
def f_X0_settle_4 (o0 : Nat)  : Nat → Int32 → Int32 → TT → Option TT
  | 0, _, _, _ => none
  | n + 1, x1, x2, h => (if (60 : Int32) < x2 then some h else (if (h.1 o0 5) ≤ x1 then some h else nm (h.1 o0 5) fun y3 => f_X0_settle_25 o0 (f_X0_settle_4 o0 n) KF y3 x2 (0 : Int32) h))
set_option maxRecDepth 20000 in
theorem j_X0_settle_4 {p : Program} {l : Launch} {e : Env} {R : Room} {s : State} {m : MethodId} {args : Array Value} {below : List Frame} {meth : Method} {c : Code} {w : WK} (C : CX p R s m args meth c w RX0 cX0_settle 4 none 2 51)  {o0 : Nat} (ho0 : IsB o0)  : ∀ (n : Nat) (x1 : Int32) (x2 : Int32) (h : TT), GO p l e R s m args below meth c w 4 fV (f_X0_settle_4 o0 n x1 x2 h) 4 [(0, .ref (w.2.1 (o0))), (1, .int x1), (2, .int x2)] [] h := by
  intro n
  induction n with
  | zero =>
    intro x1 x2 h
    exact g_none
  | succ n ih =>
    intro x1 x2 h
    rw [f_X0_settle_4]
    refine g_iload_n (pc := 4) C 2 rfl dX0_settle_4 rfl ?_
    refine g_bipush (pc := 5) (v := 60) C dX0_settle_5 kb_60 ?_
    refine g_icmp_gt (pc := 7) (tgt := 58) C dX0_settle_7 (by decide) (fun hc1 => ?_) (fun hc1 => ?_)
    · exact g_vret C dX0_settle_58
    · refine g_aload_n (pc := 10) C 0 rfl dX0_settle_10 rfl ?_
      refine g_get (pc := 11) C (so_RX0 ho0) 5 fl_RX0_83 (v := .int (h.1 o0 5)) rfl dX0_settle_11 ?_
      refine g_iload_n (pc := 14) C 1 rfl dX0_settle_14 rfl ?_
      refine g_icmp_le (pc := 15) (tgt := 58) C dX0_settle_15 (by decide) (fun hc2 => ?_) (fun hc2 => ?_)
      · exact g_vret C dX0_settle_58
      · refine g_aload_n (pc := 18) C 0 rfl dX0_settle_18 rfl ?_
        refine g_get (pc := 19) C (so_RX0 ho0) 5 fl_RX0_83 (v := .int (h.1 o0 5)) rfl dX0_settle_19 ?_
        refine g_nmi (fun y3 => ?_)
        refine g_istore_n (pc := 22) C dX0_settle_22 rfl (by decide) (lv' := [(1, .int y3), (0, .ref (w.2.1 (o0))), (2, .int x2)]) rfl ?_
        refine g_iconst (pc := 23) (v := 0) C dX0_settle_23 kc_0 ?_
        refine g_istore_n (pc := 24) C dX0_settle_24 rfl (by decide) (lv' := [(3, .int (0 : Int32)), (1, .int y3), (0, .ref (w.2.1 (o0))), (2, .int x2)]) rfl ?_
        refine g_lv (lv' := [(0, .ref (w.2.1 (o0))), (1, .int y3), (2, .int x2), (3, .int (0 : Int32))]) [2, 1, 3, 0] rfl ?_
        exact j_X0_settle_25 C ho0 ih KF y3 x2 (0 : Int32) h
def f_X0_settle (h : TT) (o0 : Nat) : Option TT := f_X0_settle_4 o0 KF (-1 : Int32) (0 : Int32) h
set_option maxRecDepth 20000 in
theorem m_X0_settle {l : Launch} {w : WK} {h : TT} {o0 : Nat} {x : TT} (hx : f_X0_settle h o0 = some x) (ho0 : IsB o0) : Met l yX0_settle (Cond.code yX0_settle cX0_settle 4 none :: wsG) { frames := 2, cells := 0, slots := 0, locals := 51 } (PG w [.ref (w.2.1 (o0))] h) (QG w (fV x)) 0 0 (AA w) := by
  refine m_entry (own := RX0) (f := fV) hx (by decide) rfl (Nat.le_of_ble_eq_true rfl) (fun p e s m args below meth c C => ?_)
  show GO p l e _ s m args below meth c w 4 fV (f_X0_settle h o0) 0 [(0, .ref (w.2.1 (o0)))] [] h
  unfold f_X0_settle
  refine g_iconst (pc := 0) (v := -1) C dX0_settle_0 kc_m1 ?_
  refine g_istore_n (pc := 1) C dX0_settle_1 rfl (by decide) (lv' := [(1, .int (-1 : Int32)), (0, .ref (w.2.1 (o0)))]) rfl ?_
  refine g_iconst (pc := 2) (v := 0) C dX0_settle_2 kc_0 ?_
  refine g_istore_n (pc := 3) C dX0_settle_3 rfl (by decide) (lv' := [(2, .int (0 : Int32)), (1, .int (-1 : Int32)), (0, .ref (w.2.1 (o0)))]) rfl ?_
  refine g_lv (lv' := [(0, .ref (w.2.1 (o0))), (1, .int (-1 : Int32)), (2, .int (0 : Int32))]) [2, 1, 0] rfl ?_
  exact j_X0_settle_4 C ho0 KF (-1 : Int32) (0 : Int32) h
