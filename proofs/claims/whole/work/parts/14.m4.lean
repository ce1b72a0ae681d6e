/-- SnowHouseModel.keep(I)I -/
def f_X8_keep (h : TT) (x1 : Int32) : Option (Int32 × TT) := (f_X8_in h x1 (0 : Int32) (2 : Int32)).bind fun r1 => (if r1 = 0 then some ((-1 : Int32), h) else if inb (0 : Int32) 4 = true then (if (h.1 160 (0 : Int32).toNatClampNeg) = 0 then some ((-4 : Int32), h) else (f_X8_copyHouse h (0 : Int32) ((1 : Int32) + x1)).bind fun h5 => if inb ((1 : Int32) + x1) 4 = true then nm (wr h5 160 ((1 : Int32) + x1).toNatClampNeg (vp_nar .boolean (1 : Int32))) fun h7 => (f_X8_look h7 (0 : Int32)).bind fun h8 => (f_X8_v h8 (31 : Int32)).bind fun r9 => some (r9, h8) else none) else none)
set_option maxRecDepth 20000 in
theorem m_X8_keep {l : Launch} {w : WK} {h : TT} {x1 : Int32} {x : (Int32 × TT)} (hx : f_X8_keep h x1 = some x)  : Met l yX8_keep (Cond.code yX8_keep cX8_keep 2 (some .int) :: wsG) { frames := 1, cells := 0, slots := 0, locals := 23 } (PG w [.ref (w.2.1 (147)), .int x1] h) (QG w (fIT x)) 0 0 (AA w) := by
  refine m_entry (own := RX8) (f := fIT) hx (by decide) rfl (Nat.le_of_ble_eq_true rfl) (fun p e s m args below meth c C => ?_)
  show GO p l e _ s m args below meth c w 2 fIT (f_X8_keep h x1) 0 [(0, .ref (w.2.1 (147))), (1, .int x1)] [] h
  unfold f_X8_keep
  refine g_iload_n (pc := 0) C 1 rfl dX8_keep_0 rfl ?_
  refine g_iconst (pc := 1) (v := 0) C dX8_keep_1 kc_0 ?_
  refine g_iconst (pc := 2) (v := 2) C dX8_keep_2 kc_2 ?_
  refine g_callI (pc := 3) (rest := []) (g_runS C ms_RX8_71 (fun x1 hx1 => m_X8_in hx1) (by decide) rfl rfl (Nat.le_of_ble_eq_true rfl) dX8_keep_3) (fun r1 => ?_)
  refine g_if_ne (pc := 6) (tgt := 11) C dX8_keep_6 (by decide) (fun hc2 => ?_) (fun hc2 => ?_)
  · refine g_iconst (pc := 9) (v := -1) C dX8_keep_9 kc_m1 ?_
    exact g_iretT C dX8_keep_10
  · refine g_aload_n (pc := 11) C 0 rfl dX8_keep_11 rfl ?_
    refine g_get (pc := 12) C so_RX8 20 fl_RX8_48 (v := .ref (w.2.1 (160))) rfl dX8_keep_12 ?_
    refine g_iconst (pc := 15) (v := 0) C dX8_keep_15 kc_0 ?_
    refine g_zald (pc := 16) C sz_160 dX8_keep_16 (fun hb3 => ?_)
    refine g_if_ne (pc := 17) (tgt := 23) C dX8_keep_17 (by decide) (fun hc4 => ?_) (fun hc4 => ?_)
    · refine g_bipush (pc := 20) (v := -4) C dX8_keep_20 kb_m4 ?_
      exact g_iretT C dX8_keep_22
    · refine g_aload_n (pc := 23) C 0 rfl dX8_keep_23 rfl ?_
      refine g_iconst (pc := 24) (v := 0) C dX8_keep_24 kc_0 ?_
      refine g_iconst (pc := 25) (v := 1) C dX8_keep_25 kc_1 ?_
      refine g_iload_n (pc := 26) C 1 rfl dX8_keep_26 rfl ?_
      refine g_iadd (pc := 27) C dX8_keep_27 ?_
      refine g_callV (pc := 28) (rest := []) (g_runV C mv_RX8_251 (fun x1 hx1 => m_X8_copyHouse hx1) so_RX8 rfl (by decide) rfl rfl (Nat.le_of_ble_eq_true rfl) dX8_keep_28) (fun h5 => ?_)
      refine g_aload_n (pc := 31) C 0 rfl dX8_keep_31 rfl ?_
      refine g_get (pc := 32) C so_RX8 20 fl_RX8_48 (v := .ref (w.2.1 (160))) rfl dX8_keep_32 ?_
      refine g_iconst (pc := 35) (v := 1) C dX8_keep_35 kc_1 ?_
      refine g_iload_n (pc := 36) C 1 rfl dX8_keep_36 rfl ?_
      refine g_iadd (pc := 37) C dX8_keep_37 ?_
      refine g_iconst (pc := 38) (v := 1) C dX8_keep_38 kc_1 ?_
      refine g_zast (pc := 39) C sz_160 dX8_keep_39 (fun hb6 => ?_)
      refine g_nm (fun h7 => ?_)
      refine g_aload_n (pc := 40) C 0 rfl dX8_keep_40 rfl ?_
      refine g_iconst (pc := 41) (v := 0) C dX8_keep_41 kc_0 ?_
      refine g_callV (pc := 42) (rest := []) (g_runV C mv_RX8_167 (fun x1 hx1 => m_X8_look hx1) so_RX8 rfl (by decide) rfl rfl (Nat.le_of_ble_eq_true rfl) dX8_keep_42) (fun h8 => ?_)
      refine g_aload_n (pc := 45) C 0 rfl dX8_keep_45 rfl ?_
      refine g_bipush (pc := 46) (v := 31) C dX8_keep_46 kb_31 ?_
      refine g_callI (pc := 48) (rest := []) (g_runV C mv_RX8_154 (fun x1 hx1 => m_X8_v hx1) so_RX8 rfl (by decide) rfl rfl (Nat.le_of_ble_eq_true rfl) dX8_keep_48) (fun r9 => ?_)
      exact g_iretT C dX8_keep_51
/-- SnowHouseModel.on(I)I -/
def f_X8_on (h : TT) (x1 : Int32) : Option (Int32 × TT) := (f_X8_in h x1 (0 : Int32) (2 : Int32)).bind fun r1 => (if r1 = 0 then some ((-1 : Int32), h) else if inb ((1 : Int32) + x1) 4 = true then (if (h.1 160 ((1 : Int32) + x1).toNatClampNeg) = 0 then (f_X8_meets h (1 : Int32)).bind fun q5 => some (q5.1, q5.2) else (f_X8_copyHouse h ((1 : Int32) + x1) (0 : Int32)).bind fun h6 => if inb (0 : Int32) 4 = true then nm (wr h6 160 (0 : Int32).toNatClampNeg (vp_nar .boolean (1 : Int32))) fun h8 => (f_X8_look h8 (0 : Int32)).bind fun h9 => (f_X8_v h9 (31 : Int32)).bind fun r10 => some (r10, h9) else none) else none)
set_option maxRecDepth 20000 in
theorem m_X8_on {l : Launch} {w : WK} {h : TT} {x1 : Int32} {x : (Int32 × TT)} (hx : f_X8_on h x1 = some x)  : Met l yX8_on (Cond.code yX8_on cX8_on 2 (some .int) :: wsG) { frames := 1, cells := 0, slots := 0, locals := 23 } (PG w [.ref (w.2.1 (147)), .int x1] h) (QG w (fIT x)) 0 0 (AA w) := by
  refine m_entry (own := RX8) (f := fIT) hx (by decide) rfl (Nat.le_of_ble_eq_true rfl) (fun p e s m args below meth c C => ?_)
  show GO p l e _ s m args below meth c w 2 fIT (f_X8_on h x1) 0 [(0, .ref (w.2.1 (147))), (1, .int x1)] [] h
  unfold f_X8_on
  refine g_iload_n (pc := 0) C 1 rfl dX8_on_0 rfl ?_
  refine g_iconst (pc := 1) (v := 0) C dX8_on_1 kc_0 ?_
  refine g_iconst (pc := 2) (v := 2) C dX8_on_2 kc_2 ?_
  refine g_callI (pc := 3) (rest := []) (g_runS C ms_RX8_71 (fun x1 hx1 => m_X8_in hx1) (by decide) rfl rfl (Nat.le_of_ble_eq_true rfl) dX8_on_3) (fun r1 => ?_)
  refine g_if_ne (pc := 6) (tgt := 11) C dX8_on_6 (by decide) (fun hc2 => ?_) (fun hc2 => ?_)
  · refine g_iconst (pc := 9) (v := -1) C dX8_on_9 kc_m1 ?_
    exact g_iretT C dX8_on_10
  · refine g_aload_n (pc := 11) C 0 rfl dX8_on_11 rfl ?_
    refine g_get (pc := 12) C so_RX8 20 fl_RX8_48 (v := .ref (w.2.1 (160))) rfl dX8_on_12 ?_
    refine g_iconst (pc := 15) (v := 1) C dX8_on_15 kc_1 ?_
    refine g_iload_n (pc := 16) C 1 rfl dX8_on_16 rfl ?_
    refine g_iadd (pc := 17) C dX8_on_17 ?_
    refine g_zald (pc := 18) C sz_160 dX8_on_18 (fun hb3 => ?_)
    refine g_if_ne (pc := 19) (tgt := 28) C dX8_on_19 (by decide) (fun hc4 => ?_) (fun hc4 => ?_)
    · refine g_aload_n (pc := 22) C 0 rfl dX8_on_22 rfl ?_
      refine g_iconst (pc := 23) (v := 1) C dX8_on_23 kc_1 ?_
      refine g_callIT (pc := 24) (rest := []) (g_runV C mv_RX8_85 (fun x1 hx1 => m_X8_meets hx1) so_RX8 rfl (by decide) rfl rfl (Nat.le_of_ble_eq_true rfl) dX8_on_24) (fun q5 => ?_)
      exact g_iretT C dX8_on_27
    · refine g_aload_n (pc := 28) C 0 rfl dX8_on_28 rfl ?_
      refine g_iconst (pc := 29) (v := 1) C dX8_on_29 kc_1 ?_
      refine g_iload_n (pc := 30) C 1 rfl dX8_on_30 rfl ?_
      refine g_iadd (pc := 31) C dX8_on_31 ?_
      refine g_iconst (pc := 32) (v := 0) C dX8_on_32 kc_0 ?_
      refine g_callV (pc := 33) (rest := []) (g_runV C mv_RX8_251 (fun x1 hx1 => m_X8_copyHouse hx1) so_RX8 rfl (by decide) rfl rfl (Nat.le_of_ble_eq_true rfl) dX8_on_33) (fun h6 => ?_)
      refine g_aload_n (pc := 36) C 0 rfl dX8_on_36 rfl ?_
      refine g_get (pc := 37) C so_RX8 20 fl_RX8_48 (v := .ref (w.2.1 (160))) rfl dX8_on_37 ?_
      refine g_iconst (pc := 40) (v := 0) C dX8_on_40 kc_0 ?_
      refine g_iconst (pc := 41) (v := 1) C dX8_on_41 kc_1 ?_
      refine g_zast (pc := 42) C sz_160 dX8_on_42 (fun hb7 => ?_)
      refine g_nm (fun h8 => ?_)
      refine g_aload_n (pc := 43) C 0 rfl dX8_on_43 rfl ?_
      refine g_iconst (pc := 44) (v := 0) C dX8_on_44 kc_0 ?_
      refine g_callV (pc := 45) (rest := []) (g_runV C mv_RX8_167 (fun x1 hx1 => m_X8_look hx1) so_RX8 rfl (by decide) rfl rfl (Nat.le_of_ble_eq_true rfl) dX8_on_45) (fun h9 => ?_)
      refine g_aload_n (pc := 48) C 0 rfl dX8_on_48 rfl ?_
      refine g_bipush (pc := 49) (v := 31) C dX8_on_49 kb_31 ?_
      refine g_callI (pc := 51) (rest := []) (g_runV C mv_RX8_154 (fun x1 hx1 => m_X8_v hx1) so_RX8 rfl (by decide) rfl rfl (Nat.le_of_ble_eq_true rfl) dX8_on_51) (fun r10 => ?_)
      exact g_iretT C dX8_on_54
/-- SnowHouseModel.firstSlumped()I -/
def f_X8_firstSlumped_53 (h : TT)  (k5 : Int32 → Int32 → Option Int32) (x2 : Int32) (xs0 : Int32) : Option Int32 := k5 xs0 (x2 + (1 : Int32))
set_option maxRecDepth 20000 in
theorem j_X8_firstSlumped_53 {p : Program} {l : Launch} {e : Env} {R : Room} {s : State} {m : MethodId} {args : Array Value} {below : List Frame} {meth : Method} {c : Code} {w : WK} (C : CX p R s m args meth c w RX8 cX8_firstSlumped 3 (some .int) 2 42) (h : TT)   {k5 : Int32 → Int32 → Option Int32} (hk5 : ∀ (x1 : Int32) (x2 : Int32) , GO p l e R s m args below meth c w 3 (fI h) (k5 x1 x2) 5 [(0, .ref (w.2.1 (147))), (1, .int x1), (2, .int x2)] [] h) (x2 : Int32) (xs0 : Int32)  : GO p l e R s m args below meth c w 3 (fI h) (f_X8_firstSlumped_53 h k5 x2 xs0) 53 [(0, .ref (w.2.1 (147))), (2, .int x2)] [.int xs0] h := by
  unfold f_X8_firstSlumped_53
  refine g_istore_n (pc := 53) C dX8_firstSlumped_53 rfl (by decide) (lv' := [(1, .int xs0), (0, .ref (w.2.1 (147))), (2, .int x2)]) rfl ?_
  refine g_iinc (pc := 54) C 2 rfl dX8_firstSlumped_54 (ki_1 _) (by decide) (lv' := [(2, .int (x2 + (1 : Int32))), (1, .int xs0), (0, .ref (w.2.1 (147)))]) rfl ?_
  refine g_goto (pc := 57) (tgt := 5) C dX8_firstSlumped_57 (by decide) ?_
  refine g_lv (lv' := [(0, .ref (w.2.1 (147))), (1, .int xs0), (2, .int (x2 + (1 : Int32)))]) [2, 1, 0] rfl ?_
  exact hk5 xs0 (x2 + (1 : Int32))
def f_X8_firstSlumped_52 (h : TT)  (k5 : Int32 → Int32 → Option Int32) (x1 : Int32) (x2 : Int32) : Option Int32 := f_X8_firstSlumped_53 h k5 x2 x1
set_option maxRecDepth 20000 in
theorem j_X8_firstSlumped_52 {p : Program} {l : Launch} {e : Env} {R : Room} {s : State} {m : MethodId} {args : Array Value} {below : List Frame} {meth : Method} {c : Code} {w : WK} (C : CX p R s m args meth c w RX8 cX8_firstSlumped 3 (some .int) 2 42) (h : TT)   {k5 : Int32 → Int32 → Option Int32} (hk5 : ∀ (x1 : Int32) (x2 : Int32) , GO p l e R s m args below meth c w 3 (fI h) (k5 x1 x2) 5 [(0, .ref (w.2.1 (147))), (1, .int x1), (2, .int x2)] [] h) (x1 : Int32) (x2 : Int32)  : GO p l e R s m args below meth c w 3 (fI h) (f_X8_firstSlumped_52 h k5 x1 x2) 52 [(0, .ref (w.2.1 (147))), (1, .int x1), (2, .int x2)] [] h := by
  unfold f_X8_firstSlumped_52
  refine g_iload_n (pc := 52) C 1 rfl dX8_firstSlumped_52 rfl ?_
  refine g_lv (lv' := [(0, .ref (w.2.1 (147))), (2, .int x2)]) [0, 2] rfl ?_
  exact j_X8_firstSlumped_53 C h hk5 x2 x1
def f_X8_firstSlumped_48 (h : TT)  (k5 : Int32 → Int32 → Option Int32) (x2 : Int32) : Option Int32 := f_X8_firstSlumped_53 h k5 x2 x2
set_option maxRecDepth 20000 in
theorem j_X8_firstSlumped_48 {p : Program} {l : Launch} {e : Env} {R : Room} {s : State} {m : MethodId} {args : Array Value} {below : List Frame} {meth : Method} {c : Code} {w : WK} (C : CX p R s m args meth c w RX8 cX8_firstSlumped 3 (some .int) 2 42) (h : TT)   {k5 : Int32 → Int32 → Option Int32} (hk5 : ∀ (x1 : Int32) (x2 : Int32) , GO p l e R s m args below meth c w 3 (fI h) (k5 x1 x2) 5 [(0, .ref (w.2.1 (147))), (1, .int x1), (2, .int x2)] [] h) (x2 : Int32)  : GO p l e R s m args below meth c w 3 (fI h) (f_X8_firstSlumped_48 h k5 x2) 48 [(0, .ref (w.2.1 (147))), (2, .int x2)] [] h := by
  unfold f_X8_firstSlumped_48
  refine g_iload_n (pc := 48) C 1 rfl dX8_firstSlumped_48 rfl ?_
  refine g_goto (pc := 49) (tgt := 53) C dX8_firstSlumped_49 (by decide) ?_
  exact j_X8_firstSlumped_53 C h hk5 x2 x2
def f_X8_firstSlumped_5 (h : TT)   : Nat → Int32 → Int32 → Option Int32
  | 0, _, _ => none
  | n + 1, x1, x2 => (f_X8_v h (31 : Int32)).bind fun r1 => (if r1 ≤ x2 then some x1 else (f_X8_hasSlumped h x2).bind fun r3 => (if r3 = 0 then f_X8_firstSlumped_52 h (f_X8_firstSlumped_5 h n) x1 x2 else (if x1 = (-9 : Int32) then f_X8_firstSlumped_48 h (f_X8_firstSlumped_5 h n) x2 else (f_X8_v h ((32 : Int32) + x2)).bind fun r6 => (f_X8_v h ((32 : Int32) + x1)).bind fun r7 => (if r7 ≤ r6 then f_X8_firstSlumped_52 h (f_X8_firstSlumped_5 h n) x1 x2 else f_X8_firstSlumped_48 h (f_X8_firstSlumped_5 h n) x2))))
set_option maxRecDepth 20000 in
theorem j_X8_firstSlumped_5 {p : Program} {l : Launch} {e : Env} {R : Room} {s : State} {m : MethodId} {args : Array Value} {below : List Frame} {meth : Method} {c : Code} {w : WK} (C : CX p R s m args meth c w RX8 cX8_firstSlumped 3 (some .int) 2 42) (h : TT)    : ∀ (n : Nat) (x1 : Int32) (x2 : Int32), GO p l e R s m args below meth c w 3 (fI h) (f_X8_firstSlumped_5 h n x1 x2) 5 [(0, .ref (w.2.1 (147))), (1, .int x1), (2, .int x2)] [] h := by
  intro n
  induction n with
  | zero =>
    intro x1 x2
    exact g_none
  | succ n ih =>
    intro x1 x2
    rw [f_X8_firstSlumped_5]
    refine g_iload_n (pc := 5) C 2 rfl dX8_firstSlumped_5 rfl ?_
    refine g_aload_n (pc := 6) C 0 rfl dX8_firstSlumped_6 rfl ?_
    refine g_bipush (pc := 7) (v := 31) C dX8_firstSlumped_7 kb_31 ?_
    refine g_callI (pc := 9) (rest := [.int x2]) (g_runV C mv_RX8_154 (fun x1 hx1 => m_X8_v hx1) so_RX8 rfl (by decide) rfl rfl (Nat.le_of_ble_eq_true rfl) dX8_firstSlumped_9) (fun r1 => ?_)
    refine g_icmp_ge (pc := 12) (tgt := 60) C dX8_firstSlumped_12 (by decide) (fun hc2 => ?_) (fun hc2 => ?_)
    · refine g_iload_n (pc := 60) C 1 rfl dX8_firstSlumped_60 rfl ?_
      exact g_iret C dX8_firstSlumped_61
    · refine g_aload_n (pc := 15) C 0 rfl dX8_firstSlumped_15 rfl ?_
      refine g_iload_n (pc := 16) C 2 rfl dX8_firstSlumped_16 rfl ?_
      refine g_callI (pc := 17) (rest := []) (g_runV C mv_RX8_185 (fun x1 hx1 => m_X8_hasSlumped hx1) so_RX8 rfl (by decide) rfl rfl (Nat.le_of_ble_eq_true rfl) dX8_firstSlumped_17) (fun r3 => ?_)
      refine g_if_eq (pc := 20) (tgt := 52) C dX8_firstSlumped_20 (by decide) (fun hc4 => ?_) (fun hc4 => ?_)
      · exact j_X8_firstSlumped_52 C h ih x1 x2
      · refine g_iload_n (pc := 23) C 1 rfl dX8_firstSlumped_23 rfl ?_
        refine g_bipush (pc := 24) (v := -9) C dX8_firstSlumped_24 kb_m9 ?_
        refine g_icmp_eq (pc := 26) (tgt := 48) C dX8_firstSlumped_26 (by decide) (fun hc5 => ?_) (fun hc5 => ?_)
        · refine g_lv (lv' := [(0, .ref (w.2.1 (147))), (2, .int x2)]) [0, 2] rfl ?_
          exact j_X8_firstSlumped_48 C h ih x2
        · refine g_aload_n (pc := 29) C 0 rfl dX8_firstSlumped_29 rfl ?_
          refine g_bipush (pc := 30) (v := 32) C dX8_firstSlumped_30 kb_32 ?_
          refine g_iload_n (pc := 32) C 2 rfl dX8_firstSlumped_32 rfl ?_
          refine g_iadd (pc := 33) C dX8_firstSlumped_33 ?_
          refine g_callI (pc := 34) (rest := []) (g_runV C mv_RX8_154 (fun x1 hx1 => m_X8_v hx1) so_RX8 rfl (by decide) rfl rfl (Nat.le_of_ble_eq_true rfl) dX8_firstSlumped_34) (fun r6 => ?_)
          refine g_aload_n (pc := 37) C 0 rfl dX8_firstSlumped_37 rfl ?_
          refine g_bipush (pc := 38) (v := 32) C dX8_firstSlumped_38 kb_32 ?_
          refine g_iload_n (pc := 40) C 1 rfl dX8_firstSlumped_40 rfl ?_
          refine g_iadd (pc := 41) C dX8_firstSlumped_41 ?_
          refine g_callI (pc := 42) (rest := [.int r6]) (g_runV C mv_RX8_154 (fun x1 hx1 => m_X8_v hx1) so_RX8 rfl (by decide) rfl rfl (Nat.le_of_ble_eq_true rfl) dX8_firstSlumped_42) (fun r7 => ?_)
          refine g_icmp_ge (pc := 45) (tgt := 52) C dX8_firstSlumped_45 (by decide) (fun hc8 => ?_) (fun hc8 => ?_)
          · exact j_X8_firstSlumped_52 C h ih x1 x2
          · refine g_lv (lv' := [(0, .ref (w.2.1 (147))), (2, .int x2)]) [0, 2] rfl ?_
            exact j_X8_firstSlumped_48 C h ih x2
def f_X8_firstSlumped (h : TT)  : Option Int32 := f_X8_firstSlumped_5 h KF (-9 : Int32) (0 : Int32)
set_option maxRecDepth 20000 in
theorem m_X8_firstSlumped {l : Launch} {w : WK} {h : TT}  {x : Int32} (hx : f_X8_firstSlumped h  = some x)  : Met l yX8_firstSlumped (Cond.code yX8_firstSlumped cX8_firstSlumped 3 (some .int) :: wsG) { frames := 2, cells := 0, slots := 0, locals := 42 } (PG w [.ref (w.2.1 (147))] h) (QG w ((fI h) x)) 0 0 (AA w) := by
  refine m_entry (own := RX8) (f := (fI h)) hx (by decide) rfl (Nat.le_of_ble_eq_true rfl) (fun p e s m args below meth c C => ?_)
  show GO p l e _ s m args below meth c w 3 (fI h) (f_X8_firstSlumped h ) 0 [(0, .ref (w.2.1 (147)))] [] h
  unfold f_X8_firstSlumped
  refine g_bipush (pc := 0) (v := -9) C dX8_firstSlumped_0 kb_m9 ?_
  refine g_istore_n (pc := 2) C dX8_firstSlumped_2 rfl (by decide) (lv' := [(1, .int (-9 : Int32)), (0, .ref (w.2.1 (147)))]) rfl ?_
  refine g_iconst (pc := 3) (v := 0) C dX8_firstSlumped_3 kc_0 ?_
  refine g_istore_n (pc := 4) C dX8_firstSlumped_4 rfl (by decide) (lv' := [(2, .int (0 : Int32)), (1, .int (-9 : Int32)), (0, .ref (w.2.1 (147)))]) rfl ?_
  refine g_lv (lv' := [(0, .ref (w.2.1 (147))), (1, .int (-9 : Int32)), (2, .int (0 : Int32))]) [2, 1, 0] rfl ?_
  exact j_X8_firstSlumped_5 C h KF (-9 : Int32) (0 : Int32)
/-- SnowHouseModel.slumped()I -/
def f_X8_slumped (h : TT)  : Option (Int32 × TT) := if inb (0 : Int32) 4 = true then (if (h.1 160 (0 : Int32).toNatClampNeg) = 0 then some ((-4 : Int32), h) else (f_X8_look h (0 : Int32)).bind fun h3 => (f_X8_firstSlumped h3).bind fun r4 => (f_X8_slumpedMany h3).bind fun r5 => (f_X8_tellsBy h3 r4 r5).bind fun q6 => some (q6.1, q6.2)) else none
set_option maxRecDepth 20000 in
theorem m_X8_slumped {l : Launch} {w : WK} {h : TT}  {x : (Int32 × TT)} (hx : f_X8_slumped h  = some x)  : Met l yX8_slumped (Cond.code yX8_slumped cX8_slumped 1 (some .int) :: wsG) { frames := 3, cells := 0, slots := 0, locals := 64 } (PG w [.ref (w.2.1 (147))] h) (QG w (fIT x)) 0 0 (AA w) := by
  refine m_entry (own := RX8) (f := fIT) hx (by decide) rfl (Nat.le_of_ble_eq_true rfl) (fun p e s m args below meth c C => ?_)
  show GO p l e _ s m args below meth c w 1 fIT (f_X8_slumped h ) 0 [(0, .ref (w.2.1 (147)))] [] h
  unfold f_X8_slumped
  refine g_aload_n (pc := 0) C 0 rfl dX8_slumped_0 rfl ?_
  refine g_get (pc := 1) C so_RX8 20 fl_RX8_48 (v := .ref (w.2.1 (160))) rfl dX8_slumped_1 ?_
  refine g_iconst (pc := 4) (v := 0) C dX8_slumped_4 kc_0 ?_
  refine g_zald (pc := 5) C sz_160 dX8_slumped_5 (fun hb1 => ?_)
  refine g_if_ne (pc := 6) (tgt := 12) C dX8_slumped_6 (by decide) (fun hc2 => ?_) (fun hc2 => ?_)
  · refine g_bipush (pc := 9) (v := -4) C dX8_slumped_9 kb_m4 ?_
    exact g_iretT C dX8_slumped_11
  · refine g_aload_n (pc := 12) C 0 rfl dX8_slumped_12 rfl ?_
    refine g_iconst (pc := 13) (v := 0) C dX8_slumped_13 kc_0 ?_
    refine g_callV (pc := 14) (rest := []) (g_runV C mv_RX8_167 (fun x1 hx1 => m_X8_look hx1) so_RX8 rfl (by decide) rfl rfl (Nat.le_of_ble_eq_true rfl) dX8_slumped_14) (fun h3 => ?_)
    refine g_aload_n (pc := 17) C 0 rfl dX8_slumped_17 rfl ?_
    refine g_aload_n (pc := 18) C 0 rfl dX8_slumped_18 rfl ?_
    refine g_callI (pc := 19) (rest := [.ref (w.2.1 (147))]) (g_runV C mv_RX8_254 (fun x1 hx1 => m_X8_firstSlumped hx1) so_RX8 rfl (by decide) rfl rfl (Nat.le_of_ble_eq_true rfl) dX8_slumped_19) (fun r4 => ?_)
    refine g_aload_n (pc := 22) C 0 rfl dX8_slumped_22 rfl ?_
    refine g_callI (pc := 23) (rest := [.int r4, .ref (w.2.1 (147))]) (g_runV C mv_RX8_248 (fun x1 hx1 => m_X8_slumpedMany hx1) so_RX8 rfl (by decide) rfl rfl (Nat.le_of_ble_eq_true rfl) dX8_slumped_23) (fun r5 => ?_)
    refine g_callIT (pc := 26) (rest := []) (g_runV C mv_RX8_93 (fun x1 hx1 => m_X8_tellsBy hx1) so_RX8 rfl (by decide) rfl rfl (Nat.le_of_ble_eq_true rfl) dX8_slumped_26) (fun q6 => ?_)
    exact g_iretT C dX8_slumped_29
/-- SnowHouseModel.layOwn()V -/
def f_X8_layOwn (h : TT)  : Option TT := (f_X8_copyHouse h (0 : Int32) (4 : Int32)).bind fun h1 => (f_X8_look h1 (4 : Int32)).bind fun h2 => some h2
set_option maxRecDepth 20000 in
theorem m_X8_layOwn {l : Launch} {w : WK} {h : TT}  {x : TT} (hx : f_X8_layOwn h  = some x)  : Met l yX8_layOwn (Cond.code yX8_layOwn cX8_layOwn 1 none :: wsG) { frames := 1, cells := 0, slots := 0, locals := 23 } (PG w [.ref (w.2.1 (147))] h) (QG w (fV x)) 0 0 (AA w) := by
  refine m_entry (own := RX8) (f := fV) hx (by decide) rfl (Nat.le_of_ble_eq_true rfl) (fun p e s m args below meth c C => ?_)
  show GO p l e _ s m args below meth c w 1 fV (f_X8_layOwn h ) 0 [(0, .ref (w.2.1 (147)))] [] h
  unfold f_X8_layOwn
  refine g_aload_n (pc := 0) C 0 rfl dX8_layOwn_0 rfl ?_
  refine g_iconst (pc := 1) (v := 0) C dX8_layOwn_1 kc_0 ?_
  refine g_iconst (pc := 2) (v := 4) C dX8_layOwn_2 kc_4 ?_
  refine g_callV (pc := 3) (rest := []) (g_runV C mv_RX8_251 (fun x1 hx1 => m_X8_copyHouse hx1) so_RX8 rfl (by decide) rfl rfl (Nat.le_of_ble_eq_true rfl) dX8_layOwn_3) (fun h1 => ?_)
  refine g_aload_n (pc := 6) C 0 rfl dX8_layOwn_6 rfl ?_
  refine g_iconst (pc := 7) (v := 4) C dX8_layOwn_7 kc_4 ?_
  refine g_callV (pc := 8) (rest := []) (g_runV C mv_RX8_167 (fun x1 hx1 => m_X8_look hx1) so_RX8 rfl (by decide) rfl rfl (Nat.le_of_ble_eq_true rfl) dX8_layOwn_8) (fun h2 => ?_)
  exact g_vret C dX8_layOwn_11
/-- SnowHouseModel.builds()I -/
def f_X8_builds (h : TT)  : Option (Int32 × TT) := (f_X8_begins h).bind fun h1 => (f_X8_all h1).bind fun r2 => (f_X8_lays h1 r2).bind fun h3 => (f_X8_slumpedMany h3).bind fun r4 => some (r4, h3)
set_option maxRecDepth 20000 in
theorem m_X8_builds {l : Launch} {w : WK} {h : TT}  {x : (Int32 × TT)} (hx : f_X8_builds h  = some x)  : Met l yX8_builds (Cond.code yX8_builds cX8_builds 1 (some .int) :: wsG) { frames := 10, cells := 0, slots := 0, locals := 221 } (PG w [.ref (w.2.1 (147))] h) (QG w (fIT x)) 0 0 (AA w) := by
  refine m_entry (own := RX8) (f := fIT) hx (by decide) rfl (Nat.le_of_ble_eq_true rfl) (fun p e s m args below meth c C => ?_)
  show GO p l e _ s m args below meth c w 1 fIT (f_X8_builds h ) 0 [(0, .ref (w.2.1 (147)))] [] h
  unfold f_X8_builds
  refine g_aload_n (pc := 0) C 0 rfl dX8_builds_0 rfl ?_
  refine g_callV (pc := 1) (rest := []) (g_runV C mv_RX8_175 (fun x1 hx1 => m_X8_begins hx1) so_RX8 rfl (by decide) rfl rfl (Nat.le_of_ble_eq_true rfl) dX8_builds_1) (fun h1 => ?_)
  refine g_aload_n (pc := 4) C 0 rfl dX8_builds_4 rfl ?_
  refine g_aload_n (pc := 5) C 0 rfl dX8_builds_5 rfl ?_
  refine g_callI (pc := 6) (rest := [.ref (w.2.1 (147))]) (g_runV C mv_RX8_178 (fun x1 hx1 => m_X8_all hx1) so_RX8 rfl (by decide) rfl rfl (Nat.le_of_ble_eq_true rfl) dX8_builds_6) (fun r2 => ?_)
  refine g_callV (pc := 9) (rest := []) (g_runV C mv_RX8_233 (fun x1 hx1 => m_X8_lays hx1) so_RX8 rfl (by decide) rfl rfl (Nat.le_of_ble_eq_true rfl) dX8_builds_9) (fun h3 => ?_)
  refine g_aload_n (pc := 12) C 0 rfl dX8_builds_12 rfl ?_
  refine g_callI (pc := 13) (rest := []) (g_runV C mv_RX8_248 (fun x1 hx1 => m_X8_slumpedMany hx1) so_RX8 rfl (by decide) rfl rfl (Nat.le_of_ble_eq_true rfl) dX8_builds_13) (fun r4 => ?_)
  exact g_iretT C dX8_builds_16
/-- SnowHouseModel.falls()I -/
def f_X8_falls (h : TT)  : Option (Int32 × TT) := if inb (0 : Int32) 4 = true then (if (h.1 160 (0 : Int32).toNatClampNeg) = 0 then some ((-4 : Int32), h) else (f_X8_layOwn h).bind fun h3 => (f_X8_builds h3).bind fun q4 => (f_X8_firstSlumped q4.2).bind fun r5 => (if r5 = (-9 : Int32) then some ((-9 : Int32), q4.2) else (f_X8_v q4.2 ((32 : Int32) + r5)).bind fun r7 => (f_X8_tellsBy q4.2 r5 r7).bind fun q8 => some (q8.1, q8.2))) else none
set_option maxRecDepth 20000 in
theorem m_X8_falls {l : Launch} {w : WK} {h : TT}  {x : (Int32 × TT)} (hx : f_X8_falls h  = some x)  : Met l yX8_falls (Cond.code yX8_falls cX8_falls 2 (some .int) :: wsG) { frames := 11, cells := 0, slots := 0, locals := 241 } (PG w [.ref (w.2.1 (147))] h) (QG w (fIT x)) 0 0 (AA w) := by
  refine m_entry (own := RX8) (f := fIT) hx (by decide) rfl (Nat.le_of_ble_eq_true rfl) (fun p e s m args below meth c C => ?_)
  show GO p l e _ s m args below meth c w 2 fIT (f_X8_falls h ) 0 [(0, .ref (w.2.1 (147)))] [] h
  unfold f_X8_falls
  refine g_aload_n (pc := 0) C 0 rfl dX8_falls_0 rfl ?_
  refine g_get (pc := 1) C so_RX8 20 fl_RX8_48 (v := .ref (w.2.1 (160))) rfl dX8_falls_1 ?_
  refine g_iconst (pc := 4) (v := 0) C dX8_falls_4 kc_0 ?_
  refine g_zald (pc := 5) C sz_160 dX8_falls_5 (fun hb1 => ?_)
  refine g_if_ne (pc := 6) (tgt := 12) C dX8_falls_6 (by decide) (fun hc2 => ?_) (fun hc2 => ?_)
  · refine g_bipush (pc := 9) (v := -4) C dX8_falls_9 kb_m4 ?_
    exact g_iretT C dX8_falls_11
  · refine g_aload_n (pc := 12) C 0 rfl dX8_falls_12 rfl ?_
    refine g_callV (pc := 13) (rest := []) (g_runV C mv_RX8_257 (fun x1 hx1 => m_X8_layOwn hx1) so_RX8 rfl (by decide) rfl rfl (Nat.le_of_ble_eq_true rfl) dX8_falls_13) (fun h3 => ?_)
    refine g_aload_n (pc := 16) C 0 rfl dX8_falls_16 rfl ?_
    refine g_callIT (pc := 17) (rest := []) (g_runV C mv_RX8_260 (fun x1 hx1 => m_X8_builds hx1) so_RX8 rfl (by decide) rfl rfl (Nat.le_of_ble_eq_true rfl) dX8_falls_17) (fun q4 => ?_)
    refine g_pop (pc := 20) C dX8_falls_20 rfl ?_
    refine g_aload_n (pc := 21) C 0 rfl dX8_falls_21 rfl ?_
    refine g_callI (pc := 22) (rest := []) (g_runV C mv_RX8_254 (fun x1 hx1 => m_X8_firstSlumped hx1) so_RX8 rfl (by decide) rfl rfl (Nat.le_of_ble_eq_true rfl) dX8_falls_22) (fun r5 => ?_)
    refine g_istore_n (pc := 25) C dX8_falls_25 rfl (by decide) (lv' := [(1, .int r5), (0, .ref (w.2.1 (147)))]) rfl ?_
    refine g_iload_n (pc := 26) C 0 rfl dX8_falls_26 rfl ?_
    refine g_bipush (pc := 27) (v := -9) C dX8_falls_27 kb_m9 ?_
    refine g_icmp_ne (pc := 29) (tgt := 37) C dX8_falls_29 (by decide) (fun hc6 => ?_) (fun hc6 => ?_)
    · refine g_bipush (pc := 32) (v := -9) C dX8_falls_32 kb_m9 ?_
      refine g_goto (pc := 34) (tgt := 50) C dX8_falls_34 (by decide) ?_
      exact g_iretT C dX8_falls_50
    · refine g_aload_n (pc := 37) C 1 rfl dX8_falls_37 rfl ?_
      refine g_iload_n (pc := 38) C 0 rfl dX8_falls_38 rfl ?_
      refine g_aload_n (pc := 39) C 1 rfl dX8_falls_39 rfl ?_
      refine g_bipush (pc := 40) (v := 32) C dX8_falls_40 kb_32 ?_
      refine g_iload_n (pc := 42) C 0 rfl dX8_falls_42 rfl ?_
      refine g_iadd (pc := 43) C dX8_falls_43 ?_
      refine g_callI (pc := 44) (rest := [.int r5, .ref (w.2.1 (147))]) (g_runV C mv_RX8_154 (fun x1 hx1 => m_X8_v hx1) so_RX8 rfl (by decide) rfl rfl (Nat.le_of_ble_eq_true rfl) dX8_falls_44) (fun r7 => ?_)
      refine g_callIT (pc := 47) (rest := []) (g_runV C mv_RX8_93 (fun x1 hx1 => m_X8_tellsBy hx1) so_RX8 rfl (by decide) rfl rfl (Nat.le_of_ble_eq_true rfl) dX8_falls_47) (fun q8 => ?_)
      exact g_iretT C dX8_falls_50
/-- SnowHouseModel.pace(I)I -/
def f_X8_pace (h : TT) (x1 : Int32) : Option (Int32 × TT) := (f_X8_in h x1 (1 : Int32) (9 : Int32)).bind fun r1 => (if r1 = 0 then some ((-1 : Int32), h) else if inb (0 : Int32) 4 = true then (if (h.1 160 (0 : Int32).toNatClampNeg) = 0 then some ((-4 : Int32), h) else (f_X8_layOwn h).bind fun h5 => (f_X8_put_ h5 (4 : Int32) x1).bind fun h6 => (f_X8_builds h6).bind fun q7 => some (q7.1, q7.2)) else none)
set_option maxRecDepth 20000 in
theorem m_X8_pace {l : Launch} {w : WK} {h : TT} {x1 : Int32} {x : (Int32 × TT)} (hx : f_X8_pace h x1 = some x)  : Met l yX8_pace (Cond.code yX8_pace cX8_pace 2 (some .int) :: wsG) { frames := 11, cells := 0, slots := 0, locals := 241 } (PG w [.ref (w.2.1 (147)), .int x1] h) (QG w (fIT x)) 0 0 (AA w) := by
  refine m_entry (own := RX8) (f := fIT) hx (by decide) rfl (Nat.le_of_ble_eq_true rfl) (fun p e s m args below meth c C => ?_)
  show GO p l e _ s m args below meth c w 2 fIT (f_X8_pace h x1) 0 [(0, .ref (w.2.1 (147))), (1, .int x1)] [] h
  unfold f_X8_pace
  refine g_iload_n (pc := 0) C 1 rfl dX8_pace_0 rfl ?_
  refine g_iconst (pc := 1) (v := 1) C dX8_pace_1 kc_1 ?_
  refine g_bipush (pc := 2) (v := 9) C dX8_pace_2 kb_9 ?_
  refine g_callI (pc := 4) (rest := []) (g_runS C ms_RX8_71 (fun x1 hx1 => m_X8_in hx1) (by decide) rfl rfl (Nat.le_of_ble_eq_true rfl) dX8_pace_4) (fun r1 => ?_)
  refine g_if_ne (pc := 7) (tgt := 12) C dX8_pace_7 (by decide) (fun hc2 => ?_) (fun hc2 => ?_)
  · refine g_iconst (pc := 10) (v := -1) C dX8_pace_10 kc_m1 ?_
    exact g_iretT C dX8_pace_11
  · refine g_aload_n (pc := 12) C 0 rfl dX8_pace_12 rfl ?_
    refine g_get (pc := 13) C so_RX8 20 fl_RX8_48 (v := .ref (w.2.1 (160))) rfl dX8_pace_13 ?_
    refine g_iconst (pc := 16) (v := 0) C dX8_pace_16 kc_0 ?_
    refine g_zald (pc := 17) C sz_160 dX8_pace_17 (fun hb3 => ?_)
    refine g_if_ne (pc := 18) (tgt := 24) C dX8_pace_18 (by decide) (fun hc4 => ?_) (fun hc4 => ?_)
    · refine g_bipush (pc := 21) (v := -4) C dX8_pace_21 kb_m4 ?_
      exact g_iretT C dX8_pace_23
    · refine g_aload_n (pc := 24) C 0 rfl dX8_pace_24 rfl ?_
      refine g_callV (pc := 25) (rest := []) (g_runV C mv_RX8_257 (fun x1 hx1 => m_X8_layOwn hx1) so_RX8 rfl (by decide) rfl rfl (Nat.le_of_ble_eq_true rfl) dX8_pace_25) (fun h5 => ?_)
      refine g_aload_n (pc := 28) C 0 rfl dX8_pace_28 rfl ?_
      refine g_iconst (pc := 29) (v := 4) C dX8_pace_29 kc_4 ?_
      refine g_iload_n (pc := 30) C 1 rfl dX8_pace_30 rfl ?_
      refine g_callV (pc := 31) (rest := []) (g_runV C mv_RX8_163 (fun x1 hx1 => m_X8_put_ hx1) so_RX8 rfl (by decide) rfl rfl (Nat.le_of_ble_eq_true rfl) dX8_pace_31) (fun h6 => ?_)
      refine g_aload_n (pc := 34) C 0 rfl dX8_pace_34 rfl ?_
      refine g_callIT (pc := 35) (rest := []) (g_runV C mv_RX8_260 (fun x1 hx1 => m_X8_builds hx1) so_RX8 rfl (by decide) rfl rfl (Nat.le_of_ble_eq_true rfl) dX8_pace_35) (fun q7 => ?_)
      exact g_iretT C dX8_pace_38
/-- SnowHouseModel.lean(I)I -/
def f_X8_lean_80  (k49 : Int32 → Int32 → Int32 → TT → Option (Int32 × TT)) (x1 : Int32) (x3 : Int32) (xs0 : Int32) (h : TT) : Option (Int32 × TT) := k49 x1 xs0 (x3 + (1 : Int32)) h
set_option maxRecDepth 20000 in
theorem j_X8_lean_80 {p : Program} {l : Launch} {e : Env} {R : Room} {s : State} {m : MethodId} {args : Array Value} {below : List Frame} {meth : Method} {c : Code} {w : WK} (C : CX p R s m args meth c w RX8 cX8_lean 4 (some .int) 11 241)    {k49 : Int32 → Int32 → Int32 → TT → Option (Int32 × TT)} (hk49 : ∀ (x1 : Int32) (x2 : Int32) (x3 : Int32)  (h : TT), GO p l e R s m args below meth c w 4 fIT (k49 x1 x2 x3 h) 49 [(0, .ref (w.2.1 (147))), (1, .int x1), (2, .int x2), (3, .int x3)] [] h) (x1 : Int32) (x3 : Int32) (xs0 : Int32)  (h : TT) : GO p l e R s m args below meth c w 4 fIT (f_X8_lean_80 k49 x1 x3 xs0 h) 80 [(0, .ref (w.2.1 (147))), (1, .int x1), (3, .int x3)] [.int xs0] h := by
  unfold f_X8_lean_80
  refine g_istore_n (pc := 80) C dX8_lean_80 rfl (by decide) (lv' := [(2, .int xs0), (0, .ref (w.2.1 (147))), (1, .int x1), (3, .int x3)]) rfl ?_
  refine g_iinc (pc := 81) C 3 rfl dX8_lean_81 (ki_1 _) (by decide) (lv' := [(3, .int (x3 + (1 : Int32))), (2, .int xs0), (0, .ref (w.2.1 (147))), (1, .int x1)]) rfl ?_
  refine g_goto (pc := 84) (tgt := 49) C dX8_lean_84 (by decide) ?_
  refine g_lv (lv' := [(0, .ref (w.2.1 (147))), (1, .int x1), (2, .int xs0), (3, .int (x3 + (1 : Int32)))]) [2, 3, 1, 0] rfl ?_
  exact hk49 x1 xs0 (x3 + (1 : Int32)) h
def f_X8_lean_49   : Nat → Int32 → Int32 → Int32 → TT → Option (Int32 × TT)
  | 0, _, _, _, _ => none
  | n + 1, x1, x2, x3, h => (if (9 : Int32) < x3 then some (x2, h) else (f_X8_put_ h (((7 : Int32) + ((3 : Int32) * x1)) + (2 : Int32)) x3).bind fun h9 => (f_X8_builds h9).bind fun q10 => (if q10.1 = 0 then f_X8_lean_80 (f_X8_lean_49 n) x1 x3 x3 q10.2 else f_X8_lean_80 (f_X8_lean_49 n) x1 x3 x2 q10.2))
set_option maxRecDepth 20000 in
theorem j_X8_lean_49 {p : Program} {l : Launch} {e : Env} {R : Room} {s : State} {m : MethodId} {args : Array Value} {below : List Frame} {meth : Method} {c : Code} {w : WK} (C : CX p R s m args meth c w RX8 cX8_lean 4 (some .int) 11 241)     : ∀ (n : Nat) (x1 : Int32) (x2 : Int32) (x3 : Int32) (h : TT), GO p l e R s m args below meth c w 4 fIT (f_X8_lean_49 n x1 x2 x3 h) 49 [(0, .ref (w.2.1 (147))), (1, .int x1), (2, .int x2), (3, .int x3)] [] h := by
  intro n
  induction n with
  | zero =>
    intro x1 x2 x3 h
    exact g_none
  | succ n ih =>
    intro x1 x2 x3 h
    rw [f_X8_lean_49]
    refine g_iload_n (pc := 49) C 3 rfl dX8_lean_49 rfl ?_
    refine g_bipush (pc := 50) (v := 9) C dX8_lean_50 kb_9 ?_
    refine g_icmp_gt (pc := 52) (tgt := 87) C dX8_lean_52 (by decide) (fun hc8 => ?_) (fun hc8 => ?_)
    · refine g_iload_n (pc := 87) C 2 rfl dX8_lean_87 rfl ?_
      exact g_iretT C dX8_lean_88
    · refine g_aload_n (pc := 55) C 0 rfl dX8_lean_55 rfl ?_
      refine g_bipush (pc := 56) (v := 7) C dX8_lean_56 kb_7 ?_
      refine g_iconst (pc := 58) (v := 3) C dX8_lean_58 kc_3 ?_
      refine g_iload_n (pc := 59) C 1 rfl dX8_lean_59 rfl ?_
      refine g_imul (pc := 60) C dX8_lean_60 ?_
      refine g_iadd (pc := 61) C dX8_lean_61 ?_
      refine g_iconst (pc := 62) (v := 2) C dX8_lean_62 kc_2 ?_
      refine g_iadd (pc := 63) C dX8_lean_63 ?_
      refine g_iload_n (pc := 64) C 3 rfl dX8_lean_64 rfl ?_
      refine g_callV (pc := 65) (rest := []) (g_runV C mv_RX8_163 (fun x1 hx1 => m_X8_put_ hx1) so_RX8 rfl (by decide) rfl rfl (Nat.le_of_ble_eq_true rfl) dX8_lean_65) (fun h9 => ?_)
      refine g_aload_n (pc := 68) C 0 rfl dX8_lean_68 rfl ?_
      refine g_callIT (pc := 69) (rest := []) (g_runV C mv_RX8_260 (fun x1 hx1 => m_X8_builds hx1) so_RX8 rfl (by decide) rfl rfl (Nat.le_of_ble_eq_true rfl) dX8_lean_69) (fun q10 => ?_)
      refine g_if_ne (pc := 72) (tgt := 79) C dX8_lean_72 (by decide) (fun hc11 => ?_) (fun hc11 => ?_)
      · refine g_iload_n (pc := 75) C 3 rfl dX8_lean_75 rfl ?_
        refine g_goto (pc := 76) (tgt := 80) C dX8_lean_76 (by decide) ?_
        refine g_lv (lv' := [(0, .ref (w.2.1 (147))), (1, .int x1), (3, .int x3)]) [0, 1, 3] rfl ?_
        exact j_X8_lean_80 C ih x1 x3 x3 q10.2
      · refine g_iload_n (pc := 79) C 2 rfl dX8_lean_79 rfl ?_
        refine g_lv (lv' := [(0, .ref (w.2.1 (147))), (1, .int x1), (3, .int x3)]) [0, 1, 3] rfl ?_
        exact j_X8_lean_80 C ih x1 x3 x2 q10.2
def f_X8_lean (h : TT) (x1 : Int32) : Option (Int32 × TT) := (f_X8_in h x1 (0 : Int32) (7 : Int32)).bind fun r1 => (if r1 = 0 then some ((-1 : Int32), h) else if inb (0 : Int32) 4 = true then (if (h.1 160 (0 : Int32).toNatClampNeg) = 0 then some ((-4 : Int32), h) else (f_X8_layOwn h).bind fun h5 => (f_X8_v h5 (6 : Int32)).bind fun r6 => (if x1 < r6 then f_X8_lean_49 KF x1 (-9 : Int32) (0 : Int32) h5 else (f_X8_meets h5 (2 : Int32)).bind fun q12 => some (q12.1, q12.2))) else none)
set_option maxRecDepth 20000 in
theorem m_X8_lean {l : Launch} {w : WK} {h : TT} {x1 : Int32} {x : (Int32 × TT)} (hx : f_X8_lean h x1 = some x)  : Met l yX8_lean (Cond.code yX8_lean cX8_lean 4 (some .int) :: wsG) { frames := 11, cells := 0, slots := 0, locals := 241 } (PG w [.ref (w.2.1 (147)), .int x1] h) (QG w (fIT x)) 0 0 (AA w) := by
  refine m_entry (own := RX8) (f := fIT) hx (by decide) rfl (Nat.le_of_ble_eq_true rfl) (fun p e s m args below meth c C => ?_)
  show GO p l e _ s m args below meth c w 4 fIT (f_X8_lean h x1) 0 [(0, .ref (w.2.1 (147))), (1, .int x1)] [] h
  unfold f_X8_lean
  refine g_iload_n (pc := 0) C 1 rfl dX8_lean_0 rfl ?_
  refine g_iconst (pc := 1) (v := 0) C dX8_lean_1 kc_0 ?_
  refine g_bipush (pc := 2) (v := 7) C dX8_lean_2 kb_7 ?_
  refine g_callI (pc := 4) (rest := []) (g_runS C ms_RX8_71 (fun x1 hx1 => m_X8_in hx1) (by decide) rfl rfl (Nat.le_of_ble_eq_true rfl) dX8_lean_4) (fun r1 => ?_)
  refine g_if_ne (pc := 7) (tgt := 12) C dX8_lean_7 (by decide) (fun hc2 => ?_) (fun hc2 => ?_)
  · refine g_iconst (pc := 10) (v := -1) C dX8_lean_10 kc_m1 ?_
    exact g_iretT C dX8_lean_11
  · refine g_aload_n (pc := 12) C 0 rfl dX8_lean_12 rfl ?_
    refine g_get (pc := 13) C so_RX8 20 fl_RX8_48 (v := .ref (w.2.1 (160))) rfl dX8_lean_13 ?_
    refine g_iconst (pc := 16) (v := 0) C dX8_lean_16 kc_0 ?_
    refine g_zald (pc := 17) C sz_160 dX8_lean_17 (fun hb3 => ?_)
    refine g_if_ne (pc := 18) (tgt := 24) C dX8_lean_18 (by decide) (fun hc4 => ?_) (fun hc4 => ?_)
    · refine g_bipush (pc := 21) (v := -4) C dX8_lean_21 kb_m4 ?_
      exact g_iretT C dX8_lean_23
    · refine g_aload_n (pc := 24) C 0 rfl dX8_lean_24 rfl ?_
      refine g_callV (pc := 25) (rest := []) (g_runV C mv_RX8_257 (fun x1 hx1 => m_X8_layOwn hx1) so_RX8 rfl (by decide) rfl rfl (Nat.le_of_ble_eq_true rfl) dX8_lean_25) (fun h5 => ?_)
      refine g_iload_n (pc := 28) C 1 rfl dX8_lean_28 rfl ?_
      refine g_aload_n (pc := 29) C 0 rfl dX8_lean_29 rfl ?_
      refine g_bipush (pc := 30) (v := 6) C dX8_lean_30 kb_6 ?_
      refine g_callI (pc := 32) (rest := [.int x1]) (g_runV C mv_RX8_154 (fun x1 hx1 => m_X8_v hx1) so_RX8 rfl (by decide) rfl rfl (Nat.le_of_ble_eq_true rfl) dX8_lean_32) (fun r6 => ?_)
      refine g_icmp_lt (pc := 35) (tgt := 44) C dX8_lean_35 (by decide) (fun hc7 => ?_) (fun hc7 => ?_)
      · refine g_bipush (pc := 44) (v := -9) C dX8_lean_44 kb_m9 ?_
        refine g_istore_n (pc := 46) C dX8_lean_46 rfl (by decide) (lv' := [(2, .int (-9 : Int32)), (0, .ref (w.2.1 (147))), (1, .int x1)]) rfl ?_
        refine g_iconst (pc := 47) (v := 0) C dX8_lean_47 kc_0 ?_
        refine g_istore_n (pc := 48) C dX8_lean_48 rfl (by decide) (lv' := [(3, .int (0 : Int32)), (2, .int (-9 : Int32)), (0, .ref (w.2.1 (147))), (1, .int x1)]) rfl ?_
        refine g_lv (lv' := [(0, .ref (w.2.1 (147))), (1, .int x1), (2, .int (-9 : Int32)), (3, .int (0 : Int32))]) [2, 3, 1, 0] rfl ?_
        exact j_X8_lean_49 C KF x1 (-9 : Int32) (0 : Int32) h5
      · refine g_aload_n (pc := 38) C 0 rfl dX8_lean_38 rfl ?_
        refine g_iconst (pc := 39) (v := 2) C dX8_lean_39 kc_2 ?_
        refine g_callIT (pc := 40) (rest := []) (g_runV C mv_RX8_85 (fun x1 hx1 => m_X8_meets hx1) so_RX8 rfl (by decide) rfl rfl (Nat.le_of_ble_eq_true rfl) dX8_lean_40) (fun q12 => ?_)
        exact g_iretT C dX8_lean_43
/-- SnowHouseModel.slow()I -/
def f_X8_slow_93  (k67 : Int32 → Int32 → Int32 → TT → Option (Int32 × TT)) (x1 : Int32) (x3 : Int32) (xs0 : Int32) (h : TT) : Option (Int32 × TT) := k67 x1 xs0 (x3 + (-1 : Int32)) h
set_option maxRecDepth 20000 in
theorem j_X8_slow_93 {p : Program} {l : Launch} {e : Env} {R : Room} {s : State} {m : MethodId} {args : Array Value} {below : List Frame} {meth : Method} {c : Code} {w : WK} (C : CX p R s m args meth c w RX8 cX8_slow 4 (some .int) 11 241)    {k67 : Int32 → Int32 → Int32 → TT → Option (Int32 × TT)} (hk67 : ∀ (x1 : Int32) (x2 : Int32) (x3 : Int32)  (h : TT), GO p l e R s m args below meth c w 4 fIT (k67 x1 x2 x3 h) 67 [(0, .ref (w.2.1 (147))), (1, .int x1), (2, .int x2), (3, .int x3)] [] h) (x1 : Int32) (x3 : Int32) (xs0 : Int32)  (h : TT) : GO p l e R s m args below meth c w 4 fIT (f_X8_slow_93 k67 x1 x3 xs0 h) 93 [(0, .ref (w.2.1 (147))), (1, .int x1), (3, .int x3)] [.int xs0] h := by
  unfold f_X8_slow_93
  refine g_istore_n (pc := 93) C dX8_slow_93 rfl (by decide) (lv' := [(2, .int xs0), (0, .ref (w.2.1 (147))), (1, .int x1), (3, .int x3)]) rfl ?_
  refine g_iinc (pc := 94) C 3 rfl dX8_slow_94 (ki_m1 _) (by decide) (lv' := [(3, .int (x3 + (-1 : Int32))), (2, .int xs0), (0, .ref (w.2.1 (147))), (1, .int x1)]) rfl ?_
  refine g_goto (pc := 97) (tgt := 67) C dX8_slow_97 (by decide) ?_
  refine g_lv (lv' := [(0, .ref (w.2.1 (147))), (1, .int x1), (2, .int xs0), (3, .int (x3 + (-1 : Int32)))]) [2, 3, 1, 0] rfl ?_
  exact hk67 x1 xs0 (x3 + (-1 : Int32)) h
def f_X8_slow_67   : Nat → Int32 → Int32 → Int32 → TT → Option (Int32 × TT)
  | 0, _, _, _, _ => none
  | n + 1, x1, x2, x3, h => (if x3 < 0 then (f_X8_tellsBy h x2 x1).bind fun q6 => some (q6.1, q6.2) else (f_X8_layOwn h).bind fun h7 => (f_X8_put_ h7 (2 : Int32) x3).bind fun h8 => (f_X8_builds h8).bind fun q9 => (if q9.1 = 0 then f_X8_slow_93 (f_X8_slow_67 n) x1 x3 x3 q9.2 else f_X8_slow_93 (f_X8_slow_67 n) x1 x3 x2 q9.2))
set_option maxRecDepth 20000 in
theorem j_X8_slow_67 {p : Program} {l : Launch} {e : Env} {R : Room} {s : State} {m : MethodId} {args : Array Value} {below : List Frame} {meth : Method} {c : Code} {w : WK} (C : CX p R s m args meth c w RX8 cX8_slow 4 (some .int) 11 241)     : ∀ (n : Nat) (x1 : Int32) (x2 : Int32) (x3 : Int32) (h : TT), GO p l e R s m args below meth c w 4 fIT (f_X8_slow_67 n x1 x2 x3 h) 67 [(0, .ref (w.2.1 (147))), (1, .int x1), (2, .int x2), (3, .int x3)] [] h := by
  intro n
  induction n with
  | zero =>
    intro x1 x2 x3 h
    exact g_none
  | succ n ih =>
    intro x1 x2 x3 h
    rw [f_X8_slow_67]
    refine g_iload_n (pc := 67) C 3 rfl dX8_slow_67 rfl ?_
    refine g_if_lt (pc := 68) (tgt := 100) C dX8_slow_68 (by decide) (fun hc5 => ?_) (fun hc5 => ?_)
    · refine g_aload_n (pc := 100) C 0 rfl dX8_slow_100 rfl ?_
      refine g_iload_n (pc := 101) C 2 rfl dX8_slow_101 rfl ?_
      refine g_iload_n (pc := 102) C 1 rfl dX8_slow_102 rfl ?_
      refine g_callIT (pc := 103) (rest := []) (g_runV C mv_RX8_93 (fun x1 hx1 => m_X8_tellsBy hx1) so_RX8 rfl (by decide) rfl rfl (Nat.le_of_ble_eq_true rfl) dX8_slow_103) (fun q6 => ?_)
      exact g_iretT C dX8_slow_106
    · refine g_aload_n (pc := 71) C 0 rfl dX8_slow_71 rfl ?_
      refine g_callV (pc := 72) (rest := []) (g_runV C mv_RX8_257 (fun x1 hx1 => m_X8_layOwn hx1) so_RX8 rfl (by decide) rfl rfl (Nat.le_of_ble_eq_true rfl) dX8_slow_72) (fun h7 => ?_)
      refine g_aload_n (pc := 75) C 0 rfl dX8_slow_75 rfl ?_
      refine g_iconst (pc := 76) (v := 2) C dX8_slow_76 kc_2 ?_
      refine g_iload_n (pc := 77) C 3 rfl dX8_slow_77 rfl ?_
      refine g_callV (pc := 78) (rest := []) (g_runV C mv_RX8_163 (fun x1 hx1 => m_X8_put_ hx1) so_RX8 rfl (by decide) rfl rfl (Nat.le_of_ble_eq_true rfl) dX8_slow_78) (fun h8 => ?_)
      refine g_aload_n (pc := 81) C 0 rfl dX8_slow_81 rfl ?_
      refine g_callIT (pc := 82) (rest := []) (g_runV C mv_RX8_260 (fun x1 hx1 => m_X8_builds hx1) so_RX8 rfl (by decide) rfl rfl (Nat.le_of_ble_eq_true rfl) dX8_slow_82) (fun q9 => ?_)
      refine g_if_ne (pc := 85) (tgt := 92) C dX8_slow_85 (by decide) (fun hc10 => ?_) (fun hc10 => ?_)
      · refine g_iload_n (pc := 88) C 3 rfl dX8_slow_88 rfl ?_
        refine g_goto (pc := 89) (tgt := 93) C dX8_slow_89 (by decide) ?_
        refine g_lv (lv' := [(0, .ref (w.2.1 (147))), (1, .int x1), (3, .int x3)]) [0, 1, 3] rfl ?_
        exact j_X8_slow_93 C ih x1 x3 x3 q9.2
      · refine g_iload_n (pc := 92) C 2 rfl dX8_slow_92 rfl ?_
        refine g_lv (lv' := [(0, .ref (w.2.1 (147))), (1, .int x1), (3, .int x3)]) [0, 1, 3] rfl ?_
        exact j_X8_slow_93 C ih x1 x3 x2 q9.2
def f_X8_slow_45  (k18 : Int32 → Int32 → TT → Option (Int32 × TT)) (x2 : Int32) (xs0 : Int32) (h : TT) : Option (Int32 × TT) := k18 xs0 (x2 + (-1 : Int32)) h
set_option maxRecDepth 20000 in
theorem j_X8_slow_45 {p : Program} {l : Launch} {e : Env} {R : Room} {s : State} {m : MethodId} {args : Array Value} {below : List Frame} {meth : Method} {c : Code} {w : WK} (C : CX p R s m args meth c w RX8 cX8_slow 4 (some .int) 11 241)    {k18 : Int32 → Int32 → TT → Option (Int32 × TT)} (hk18 : ∀ (x1 : Int32) (x2 : Int32)  (h : TT), GO p l e R s m args below meth c w 4 fIT (k18 x1 x2 h) 18 [(0, .ref (w.2.1 (147))), (1, .int x1), (2, .int x2)] [] h) (x2 : Int32) (xs0 : Int32)  (h : TT) : GO p l e R s m args below meth c w 4 fIT (f_X8_slow_45 k18 x2 xs0 h) 45 [(0, .ref (w.2.1 (147))), (2, .int x2)] [.int xs0] h := by
  unfold f_X8_slow_45
  refine g_istore_n (pc := 45) C dX8_slow_45 rfl (by decide) (lv' := [(1, .int xs0), (0, .ref (w.2.1 (147))), (2, .int x2)]) rfl ?_
  refine g_iinc (pc := 46) C 2 rfl dX8_slow_46 (ki_m1 _) (by decide) (lv' := [(2, .int (x2 + (-1 : Int32))), (1, .int xs0), (0, .ref (w.2.1 (147)))]) rfl ?_
  refine g_goto (pc := 49) (tgt := 18) C dX8_slow_49 (by decide) ?_
  refine g_lv (lv' := [(0, .ref (w.2.1 (147))), (1, .int xs0), (2, .int (x2 + (-1 : Int32)))]) [2, 1, 0] rfl ?_
  exact hk18 xs0 (x2 + (-1 : Int32)) h
def f_X8_slow_18   : Nat → Int32 → Int32 → TT → Option (Int32 × TT)
  | 0, _, _, _ => none
  | n + 1, x1, x2, h => (if x2 < (1 : Int32) then (if x1 = (-9 : Int32) then some ((-9 : Int32), h) else f_X8_slow_67 KF x1 (-9 : Int32) (40 : Int32) h) else (f_X8_layOwn h).bind fun h11 => (f_X8_put_ h11 (4 : Int32) x2).bind fun h12 => (f_X8_builds h12).bind fun q13 => (if q13.1 = 0 then f_X8_slow_45 (f_X8_slow_18 n) x2 x2 q13.2 else f_X8_slow_45 (f_X8_slow_18 n) x2 x1 q13.2))
set_option maxRecDepth 20000 in
theorem j_X8_slow_18 {p : Program} {l : Launch} {e : Env} {R : Room} {s : State} {m : MethodId} {args : Array Value} {below : List Frame} {meth : Method} {c : Code} {w : WK} (C : CX p R s m args meth c w RX8 cX8_slow 4 (some .int) 11 241)     : ∀ (n : Nat) (x1 : Int32) (x2 : Int32) (h : TT), GO p l e R s m args below meth c w 4 fIT (f_X8_slow_18 n x1 x2 h) 18 [(0, .ref (w.2.1 (147))), (1, .int x1), (2, .int x2)] [] h := by
  intro n
  induction n with
  | zero =>
    intro x1 x2 h
    exact g_none
  | succ n ih =>
    intro x1 x2 h
    rw [f_X8_slow_18]
    refine g_iload_n (pc := 18) C 2 rfl dX8_slow_18 rfl ?_
    refine g_iconst (pc := 19) (v := 1) C dX8_slow_19 kc_1 ?_
    refine g_icmp_lt (pc := 20) (tgt := 52) C dX8_slow_20 (by decide) (fun hc3 => ?_) (fun hc3 => ?_)
    · refine g_iload_n (pc := 52) C 1 rfl dX8_slow_52 rfl ?_
      refine g_bipush (pc := 53) (v := -9) C dX8_slow_53 kb_m9 ?_
      refine g_icmp_ne (pc := 55) (tgt := 61) C dX8_slow_55 (by decide) (fun hc4 => ?_) (fun hc4 => ?_)
      · refine g_bipush (pc := 58) (v := -9) C dX8_slow_58 kb_m9 ?_
        exact g_iretT C dX8_slow_60
      · refine g_bipush (pc := 61) (v := -9) C dX8_slow_61 kb_m9 ?_
        refine g_istore_n (pc := 63) C dX8_slow_63 rfl (by decide) (lv' := [(2, .int (-9 : Int32)), (0, .ref (w.2.1 (147))), (1, .int x1)]) rfl ?_
        refine g_bipush (pc := 64) (v := 40) C dX8_slow_64 kb_40 ?_
        refine g_istore_n (pc := 66) C dX8_slow_66 rfl (by decide) (lv' := [(3, .int (40 : Int32)), (2, .int (-9 : Int32)), (0, .ref (w.2.1 (147))), (1, .int x1)]) rfl ?_
        refine g_lv (lv' := [(0, .ref (w.2.1 (147))), (1, .int x1), (2, .int (-9 : Int32)), (3, .int (40 : Int32))]) [2, 3, 1, 0] rfl ?_
        exact j_X8_slow_67 C KF x1 (-9 : Int32) (40 : Int32) h
    · refine g_aload_n (pc := 23) C 0 rfl dX8_slow_23 rfl ?_
      refine g_callV (pc := 24) (rest := []) (g_runV C mv_RX8_257 (fun x1 hx1 => m_X8_layOwn hx1) so_RX8 rfl (by decide) rfl rfl (Nat.le_of_ble_eq_true rfl) dX8_slow_24) (fun h11 => ?_)
      refine g_aload_n (pc := 27) C 0 rfl dX8_slow_27 rfl ?_
      refine g_iconst (pc := 28) (v := 4) C dX8_slow_28 kc_4 ?_
      refine g_iload_n (pc := 29) C 2 rfl dX8_slow_29 rfl ?_
      refine g_callV (pc := 30) (rest := []) (g_runV C mv_RX8_163 (fun x1 hx1 => m_X8_put_ hx1) so_RX8 rfl (by decide) rfl rfl (Nat.le_of_ble_eq_true rfl) dX8_slow_30) (fun h12 => ?_)
      refine g_aload_n (pc := 33) C 0 rfl dX8_slow_33 rfl ?_
      refine g_callIT (pc := 34) (rest := []) (g_runV C mv_RX8_260 (fun x1 hx1 => m_X8_builds hx1) so_RX8 rfl (by decide) rfl rfl (Nat.le_of_ble_eq_true rfl) dX8_slow_34) (fun q13 => ?_)
      refine g_if_ne (pc := 37) (tgt := 44) C dX8_slow_37 (by decide) (fun hc14 => ?_) (fun hc14 => ?_)
      · refine g_iload_n (pc := 40) C 2 rfl dX8_slow_40 rfl ?_
        refine g_goto (pc := 41) (tgt := 45) C dX8_slow_41 (by decide) ?_
        refine g_lv (lv' := [(0, .ref (w.2.1 (147))), (2, .int x2)]) [0, 2] rfl ?_
        exact j_X8_slow_45 C ih x2 x2 q13.2
      · refine g_iload_n (pc := 44) C 1 rfl dX8_slow_44 rfl ?_
        refine g_lv (lv' := [(0, .ref (w.2.1 (147))), (2, .int x2)]) [0, 2] rfl ?_
        exact j_X8_slow_45 C ih x2 x1 q13.2
def f_X8_slow (h : TT)  : Option (Int32 × TT) := if inb (0 : Int32) 4 = true then (if (h.1 160 (0 : Int32).toNatClampNeg) = 0 then some ((-4 : Int32), h) else f_X8_slow_18 KF (-9 : Int32) (9 : Int32) h) else none
set_option maxRecDepth 20000 in
theorem m_X8_slow {l : Launch} {w : WK} {h : TT}  {x : (Int32 × TT)} (hx : f_X8_slow h  = some x)  : Met l yX8_slow (Cond.code yX8_slow cX8_slow 4 (some .int) :: wsG) { frames := 11, cells := 0, slots := 0, locals := 241 } (PG w [.ref (w.2.1 (147))] h) (QG w (fIT x)) 0 0 (AA w) := by
  refine m_entry (own := RX8) (f := fIT) hx (by decide) rfl (Nat.le_of_ble_eq_true rfl) (fun p e s m args below meth c C => ?_)
  show GO p l e _ s m args below meth c w 4 fIT (f_X8_slow h ) 0 [(0, .ref (w.2.1 (147)))] [] h
  unfold f_X8_slow
  refine g_aload_n (pc := 0) C 0 rfl dX8_slow_0 rfl ?_
  refine g_get (pc := 1) C so_RX8 20 fl_RX8_48 (v := .ref (w.2.1 (160))) rfl dX8_slow_1 ?_
  refine g_iconst (pc := 4) (v := 0) C dX8_slow_4 kc_0 ?_
  refine g_zald (pc := 5) C sz_160 dX8_slow_5 (fun hb1 => ?_)
  refine g_if_ne (pc := 6) (tgt := 12) C dX8_slow_6 (by decide) (fun hc2 => ?_) (fun hc2 => ?_)
  · refine g_bipush (pc := 9) (v := -4) C dX8_slow_9 kb_m4 ?_
    exact g_iretT C dX8_slow_11
  · refine g_bipush (pc := 12) (v := -9) C dX8_slow_12 kb_m9 ?_
    refine g_istore_n (pc := 14) C dX8_slow_14 rfl (by decide) (lv' := [(1, .int (-9 : Int32)), (0, .ref (w.2.1 (147)))]) rfl ?_
    refine g_bipush (pc := 15) (v := 9) C dX8_slow_15 kb_9 ?_
    refine g_istore_n (pc := 17) C dX8_slow_17 rfl (by decide) (lv' := [(2, .int (9 : Int32)), (1, .int (-9 : Int32)), (0, .ref (w.2.1 (147)))]) rfl ?_
    refine g_lv (lv' := [(0, .ref (w.2.1 (147))), (1, .int (-9 : Int32)), (2, .int (9 : Int32))]) [2, 1, 0] rfl ?_
    exact j_X8_slow_18 C KF (-9 : Int32) (9 : Int32) h
/-- SnowHouseModel.spiral()I -/
def f_X8_spiral_110  (k33 : Int32 → Int32 → Int32 → Int32 → TT → Option (Int32 × TT)) (x1 : Int32) (x2 : Int32) (x3 : Int32) (x4 : Int32) (h : TT) : Option (Int32 × TT) := k33 x1 x2 x3 (x4 + (1 : Int32)) h
set_option maxRecDepth 20000 in
theorem j_X8_spiral_110 {p : Program} {l : Launch} {e : Env} {R : Room} {s : State} {m : MethodId} {args : Array Value} {below : List Frame} {meth : Method} {c : Code} {w : WK} (C : CX p R s m args meth c w RX8 cX8_spiral 6 (some .int) 11 241)    {k33 : Int32 → Int32 → Int32 → Int32 → TT → Option (Int32 × TT)} (hk33 : ∀ (x1 : Int32) (x2 : Int32) (x3 : Int32) (x4 : Int32)  (h : TT), GO p l e R s m args below meth c w 6 fIT (k33 x1 x2 x3 x4 h) 33 [(0, .ref (w.2.1 (147))), (1, .int x1), (2, .int x2), (3, .int x3), (4, .int x4)] [] h) (x1 : Int32) (x2 : Int32) (x3 : Int32) (x4 : Int32)  (h : TT) : GO p l e R s m args below meth c w 6 fIT (f_X8_spiral_110 k33 x1 x2 x3 x4 h) 110 [(0, .ref (w.2.1 (147))), (1, .int x1), (2, .int x2), (3, .int x3), (4, .int x4)] [] h := by
  unfold f_X8_spiral_110
  refine g_iinc (pc := 110) C 4 rfl dX8_spiral_110 (ki_1 _) (by decide) (lv' := [(4, .int (x4 + (1 : Int32))), (0, .ref (w.2.1 (147))), (1, .int x1), (2, .int x2), (3, .int x3)]) rfl ?_
  refine g_goto (pc := 113) (tgt := 33) C dX8_spiral_113 (by decide) ?_
  refine g_lv (lv' := [(0, .ref (w.2.1 (147))), (1, .int x1), (2, .int x2), (3, .int x3), (4, .int (x4 + (1 : Int32)))]) [1, 2, 3, 4, 0] rfl ?_
  exact hk33 x1 x2 x3 (x4 + (1 : Int32)) h
def f_X8_spiral_104  (k33 : Int32 → Int32 → Int32 → Int32 → TT → Option (Int32 × TT)) (x3 : Int32) (x4 : Int32) (x5 : Int32) (h : TT) : Option (Int32 × TT) := f_X8_spiral_110 k33 x4 x5 x3 x4 h
set_option maxRecDepth 20000 in
theorem j_X8_spiral_104 {p : Program} {l : Launch} {e : Env} {R : Room} {s : State} {m : MethodId} {args : Array Value} {below : List Frame} {meth : Method} {c : Code} {w : WK} (C : CX p R s m args meth c w RX8 cX8_spiral 6 (some .int) 11 241)    {k33 : Int32 → Int32 → Int32 → Int32 → TT → Option (Int32 × TT)} (hk33 : ∀ (x1 : Int32) (x2 : Int32) (x3 : Int32) (x4 : Int32)  (h : TT), GO p l e R s m args below meth c w 6 fIT (k33 x1 x2 x3 x4 h) 33 [(0, .ref (w.2.1 (147))), (1, .int x1), (2, .int x2), (3, .int x3), (4, .int x4)] [] h) (x3 : Int32) (x4 : Int32) (x5 : Int32)  (h : TT) : GO p l e R s m args below meth c w 6 fIT (f_X8_spiral_104 k33 x3 x4 x5 h) 104 [(0, .ref (w.2.1 (147))), (3, .int x3), (4, .int x4), (5, .int x5)] [] h := by
  unfold f_X8_spiral_104
  refine g_iload (pc := 104) C 2 rfl dX8_spiral_104 ?_
  refine g_istore_n (pc := 106) C dX8_spiral_106 rfl (by decide) (lv' := [(1, .int x4), (0, .ref (w.2.1 (147))), (3, .int x3), (4, .int x4), (5, .int x5)]) rfl ?_
  refine g_iload (pc := 107) C 4 rfl dX8_spiral_107 ?_
  refine g_istore_n (pc := 109) C dX8_spiral_109 rfl (by decide) (lv' := [(2, .int x5), (1, .int x4), (0, .ref (w.2.1 (147))), (3, .int x3), (4, .int x4), (5, .int x5)]) rfl ?_
  refine g_lv (lv' := [(0, .ref (w.2.1 (147))), (1, .int x4), (2, .int x5), (3, .int x3), (4, .int x4)]) [2, 1, 0, 3, 4] rfl ?_
  exact j_X8_spiral_110 C hk33 x4 x5 x3 x4 h
def f_X8_spiral_77  (k33 : Int32 → Int32 → Int32 → Int32 → TT → Option (Int32 × TT)) (k42 : Int32 → Int32 → Int32 → Int32 → Int32 → TT → Option (Int32 × TT)) (x1 : Int32) (x2 : Int32) (x3 : Int32) (x4 : Int32) (x5 : Int32) (xs0 : Int32) (xs1 : Int32) (h : TT) : Option (Int32 × TT) := (f_X8_put_ h xs1 xs0).bind fun h15 => k42 x1 x2 x3 x4 (x5 + (1 : Int32)) h15
set_option maxRecDepth 20000 in
theorem j_X8_spiral_77 {p : Program} {l : Launch} {e : Env} {R : Room} {s : State} {m : MethodId} {args : Array Value} {below : List Frame} {meth : Method} {c : Code} {w : WK} (C : CX p R s m args meth c w RX8 cX8_spiral 6 (some .int) 11 241)    {k33 : Int32 → Int32 → Int32 → Int32 → TT → Option (Int32 × TT)} (hk33 : ∀ (x1 : Int32) (x2 : Int32) (x3 : Int32) (x4 : Int32)  (h : TT), GO p l e R s m args below meth c w 6 fIT (k33 x1 x2 x3 x4 h) 33 [(0, .ref (w.2.1 (147))), (1, .int x1), (2, .int x2), (3, .int x3), (4, .int x4)] [] h) {k42 : Int32 → Int32 → Int32 → Int32 → Int32 → TT → Option (Int32 × TT)} (hk42 : ∀ (x1 : Int32) (x2 : Int32) (x3 : Int32) (x4 : Int32) (x5 : Int32)  (h : TT), GO p l e R s m args below meth c w 6 fIT (k42 x1 x2 x3 x4 x5 h) 42 [(0, .ref (w.2.1 (147))), (1, .int x1), (2, .int x2), (3, .int x3), (4, .int x4), (5, .int x5)] [] h) (x1 : Int32) (x2 : Int32) (x3 : Int32) (x4 : Int32) (x5 : Int32) (xs0 : Int32) (xs1 : Int32)  (h : TT) : GO p l e R s m args below meth c w 6 fIT (f_X8_spiral_77 k33 k42 x1 x2 x3 x4 x5 xs0 xs1 h) 77 [(0, .ref (w.2.1 (147))), (1, .int x1), (2, .int x2), (3, .int x3), (4, .int x4), (5, .int x5)] [.int xs0, .int xs1, .ref (w.2.1 (147))] h := by
  unfold f_X8_spiral_77
  refine g_callV (pc := 77) (rest := []) (g_runV C mv_RX8_163 (fun x1 hx1 => m_X8_put_ hx1) so_RX8 rfl (by decide) rfl rfl (Nat.le_of_ble_eq_true rfl) dX8_spiral_77) (fun h15 => ?_)
  refine g_iinc (pc := 80) C 5 rfl dX8_spiral_80 (ki_1 _) (by decide) (lv' := [(5, .int (x5 + (1 : Int32))), (0, .ref (w.2.1 (147))), (1, .int x1), (2, .int x2), (3, .int x3), (4, .int x4)]) rfl ?_
  refine g_goto (pc := 83) (tgt := 42) C dX8_spiral_83 (by decide) ?_
  refine g_lv (lv' := [(0, .ref (w.2.1 (147))), (1, .int x1), (2, .int x2), (3, .int x3), (4, .int x4), (5, .int (x5 + (1 : Int32)))]) [1, 2, 3, 4, 5, 0] rfl ?_
  exact hk42 x1 x2 x3 x4 (x5 + (1 : Int32)) h15
def f_X8_spiral_42  (k33 : Int32 → Int32 → Int32 → Int32 → TT → Option (Int32 × TT)) : Nat → Int32 → Int32 → Int32 → Int32 → Int32 → TT → Option (Int32 × TT)
  | 0, _, _, _, _, _, _ => none
  | n + 1, x1, x2, x3, x4, x5, h => (f_X8_v h (6 : Int32)).bind fun r8 => (if r8 ≤ x5 then (f_X8_builds h).bind fun q10 => nm (q10.1) fun y11 => (if x1 = (-9 : Int32) then f_X8_spiral_104 k33 x3 x4 y11 q10.2 else (if x2 ≤ y11 then f_X8_spiral_110 k33 x1 x2 x3 x4 q10.2 else f_X8_spiral_104 k33 x3 x4 y11 q10.2)) else (if ((x4 >>> (x5 &&& 31)) &&& (1 : Int32)) = (1 : Int32) then f_X8_spiral_77 k33 (f_X8_spiral_42 k33 n) x1 x2 x3 x4 x5 (2 : Int32) ((7 : Int32) + ((3 : Int32) * x5)) h else f_X8_spiral_77 k33 (f_X8_spiral_42 k33 n) x1 x2 x3 x4 x5 (1 : Int32) ((7 : Int32) + ((3 : Int32) * x5)) h))
set_option maxRecDepth 20000 in
theorem j_X8_spiral_42 {p : Program} {l : Launch} {e : Env} {R : Room} {s : State} {m : MethodId} {args : Array Value} {below : List Frame} {meth : Method} {c : Code} {w : WK} (C : CX p R s m args meth c w RX8 cX8_spiral 6 (some .int) 11 241)    {k33 : Int32 → Int32 → Int32 → Int32 → TT → Option (Int32 × TT)} (hk33 : ∀ (x1 : Int32) (x2 : Int32) (x3 : Int32) (x4 : Int32)  (h : TT), GO p l e R s m args below meth c w 6 fIT (k33 x1 x2 x3 x4 h) 33 [(0, .ref (w.2.1 (147))), (1, .int x1), (2, .int x2), (3, .int x3), (4, .int x4)] [] h) : ∀ (n : Nat) (x1 : Int32) (x2 : Int32) (x3 : Int32) (x4 : Int32) (x5 : Int32) (h : TT), GO p l e R s m args below meth c w 6 fIT (f_X8_spiral_42 k33 n x1 x2 x3 x4 x5 h) 42 [(0, .ref (w.2.1 (147))), (1, .int x1), (2, .int x2), (3, .int x3), (4, .int x4), (5, .int x5)] [] h := by
  intro n
  induction n with
  | zero =>
    intro x1 x2 x3 x4 x5 h
    exact g_none
  | succ n ih =>
    intro x1 x2 x3 x4 x5 h
    rw [f_X8_spiral_42]
    refine g_iload (pc := 42) C 5 rfl dX8_spiral_42 ?_
    refine g_aload_n (pc := 44) C 0 rfl dX8_spiral_44 rfl ?_
    refine g_bipush (pc := 45) (v := 6) C dX8_spiral_45 kb_6 ?_
    refine g_callI (pc := 47) (rest := [.int x5]) (g_runV C mv_RX8_154 (fun x1 hx1 => m_X8_v hx1) so_RX8 rfl (by decide) rfl rfl (Nat.le_of_ble_eq_true rfl) dX8_spiral_47) (fun r8 => ?_)
    refine g_icmp_ge (pc := 50) (tgt := 86) C dX8_spiral_50 (by decide) (fun hc9 => ?_) (fun hc9 => ?_)
    · refine g_aload_n (pc := 86) C 0 rfl dX8_spiral_86 rfl ?_
      refine g_callIT (pc := 87) (rest := []) (g_runV C mv_RX8_260 (fun x1 hx1 => m_X8_builds hx1) so_RX8 rfl (by decide) rfl rfl (Nat.le_of_ble_eq_true rfl) dX8_spiral_87) (fun q10 => ?_)
      refine g_nmi (fun y11 => ?_)
      refine g_istore (pc := 90) C dX8_spiral_90 (by decide) (lv' := [(5, .int y11), (0, .ref (w.2.1 (147))), (1, .int x1), (2, .int x2), (3, .int x3), (4, .int x4)]) rfl ?_
      refine g_iload_n (pc := 92) C 2 rfl dX8_spiral_92 rfl ?_
      refine g_bipush (pc := 93) (v := -9) C dX8_spiral_93 kb_m9 ?_
      refine g_icmp_eq (pc := 95) (tgt := 104) C dX8_spiral_95 (by decide) (fun hc12 => ?_) (fun hc12 => ?_)
      · refine g_lv (lv' := [(0, .ref (w.2.1 (147))), (3, .int x3), (4, .int x4), (5, .int y11)]) [1, 4, 5, 0] rfl ?_
        exact j_X8_spiral_104 C hk33 x3 x4 y11 q10.2
      · refine g_iload (pc := 98) C 0 rfl dX8_spiral_98 ?_
        refine g_iload_n (pc := 100) C 3 rfl dX8_spiral_100 rfl ?_
        refine g_icmp_ge (pc := 101) (tgt := 110) C dX8_spiral_101 (by decide) (fun hc13 => ?_) (fun hc13 => ?_)
        · refine g_lv (lv' := [(0, .ref (w.2.1 (147))), (1, .int x1), (2, .int x2), (3, .int x3), (4, .int x4)]) [1, 2, 3, 4, 5] rfl ?_
          exact j_X8_spiral_110 C hk33 x1 x2 x3 x4 q10.2
        · refine g_lv (lv' := [(0, .ref (w.2.1 (147))), (3, .int x3), (4, .int x4), (5, .int y11)]) [1, 4, 5, 0] rfl ?_
          exact j_X8_spiral_104 C hk33 x3 x4 y11 q10.2
    · refine g_aload_n (pc := 53) C 0 rfl dX8_spiral_53 rfl ?_
      refine g_bipush (pc := 54) (v := 7) C dX8_spiral_54 kb_7 ?_
      refine g_iconst (pc := 56) (v := 3) C dX8_spiral_56 kc_3 ?_
      refine g_iload (pc := 57) C 5 rfl dX8_spiral_57 ?_
      refine g_imul (pc := 59) C dX8_spiral_59 ?_
      refine g_iadd (pc := 60) C dX8_spiral_60 ?_
      refine g_iload (pc := 61) C 4 rfl dX8_spiral_61 ?_
      refine g_iload (pc := 63) C 5 rfl dX8_spiral_63 ?_
      refine g_ishr (pc := 65) C dX8_spiral_65 ?_
      refine g_iconst (pc := 66) (v := 1) C dX8_spiral_66 kc_1 ?_
      refine g_iand (pc := 67) C dX8_spiral_67 ?_
      refine g_iconst (pc := 68) (v := 1) C dX8_spiral_68 kc_1 ?_
      refine g_icmp_ne (pc := 69) (tgt := 76) C dX8_spiral_69 (by decide) (fun hc14 => ?_) (fun hc14 => ?_)
      · refine g_iconst (pc := 72) (v := 2) C dX8_spiral_72 kc_2 ?_
        refine g_goto (pc := 73) (tgt := 77) C dX8_spiral_73 (by decide) ?_
        exact j_X8_spiral_77 C hk33 ih x1 x2 x3 x4 x5 (2 : Int32) ((7 : Int32) + ((3 : Int32) * x5)) h
      · refine g_iconst (pc := 76) (v := 1) C dX8_spiral_76 kc_1 ?_
        exact j_X8_spiral_77 C hk33 ih x1 x2 x3 x4 x5 (1 : Int32) ((7 : Int32) + ((3 : Int32) * x5)) h
def f_X8_spiral_33   : Nat → Int32 → Int32 → Int32 → Int32 → TT → Option (Int32 × TT)
  | 0, _, _, _, _, _ => none
  | n + 1, x1, x2, x3, x4, h => (if x3 ≤ x4 then (f_X8_tellsBy h x2 x1).bind fun q7 => some (q7.1, q7.2) else f_X8_spiral_42 (f_X8_spiral_33 n) KF x1 x2 x3 x4 (0 : Int32) h)
set_option maxRecDepth 20000 in
theorem j_X8_spiral_33 {p : Program} {l : Launch} {e : Env} {R : Room} {s : State} {m : MethodId} {args : Array Value} {below : List Frame} {meth : Method} {c : Code} {w : WK} (C : CX p R s m args meth c w RX8 cX8_spiral 6 (some .int) 11 241)     : ∀ (n : Nat) (x1 : Int32) (x2 : Int32) (x3 : Int32) (x4 : Int32) (h : TT), GO p l e R s m args below meth c w 6 fIT (f_X8_spiral_33 n x1 x2 x3 x4 h) 33 [(0, .ref (w.2.1 (147))), (1, .int x1), (2, .int x2), (3, .int x3), (4, .int x4)] [] h := by
  intro n
  induction n with
  | zero =>
    intro x1 x2 x3 x4 h
    exact g_none
  | succ n ih =>
    intro x1 x2 x3 x4 h
    rw [f_X8_spiral_33]
    refine g_iload (pc := 33) C 4 rfl dX8_spiral_33 ?_
    refine g_iload_n (pc := 35) C 3 rfl dX8_spiral_35 rfl ?_
    refine g_icmp_ge (pc := 36) (tgt := 116) C dX8_spiral_36 (by decide) (fun hc6 => ?_) (fun hc6 => ?_)
    · refine g_aload_n (pc := 116) C 0 rfl dX8_spiral_116 rfl ?_
      refine g_iload_n (pc := 117) C 2 rfl dX8_spiral_117 rfl ?_
      refine g_iload_n (pc := 118) C 1 rfl dX8_spiral_118 rfl ?_
      refine g_callIT (pc := 119) (rest := []) (g_runV C mv_RX8_93 (fun x1 hx1 => m_X8_tellsBy hx1) so_RX8 rfl (by decide) rfl rfl (Nat.le_of_ble_eq_true rfl) dX8_spiral_119) (fun q7 => ?_)
      exact g_iretT C dX8_spiral_122
    · refine g_iconst (pc := 39) (v := 0) C dX8_spiral_39 kc_0 ?_
      refine g_istore (pc := 40) C dX8_spiral_40 (by decide) (lv' := [(5, .int (0 : Int32)), (0, .ref (w.2.1 (147))), (1, .int x1), (2, .int x2), (3, .int x3), (4, .int x4)]) rfl ?_
      refine g_lv (lv' := [(0, .ref (w.2.1 (147))), (1, .int x1), (2, .int x2), (3, .int x3), (4, .int x4), (5, .int (0 : Int32))]) [1, 2, 3, 4, 5, 0] rfl ?_
      exact j_X8_spiral_42 C ih KF x1 x2 x3 x4 (0 : Int32) h
def f_X8_spiral (h : TT)  : Option (Int32 × TT) := if inb (0 : Int32) 4 = true then (if (h.1 160 (0 : Int32).toNatClampNeg) = 0 then some ((-4 : Int32), h) else (f_X8_layOwn h).bind fun h3 => (f_X8_v h3 (6 : Int32)).bind fun r4 => nm ((1 : Int32) <<< (r4 &&& 31)) fun y5 => f_X8_spiral_33 KF (-9 : Int32) (0 : Int32) y5 (0 : Int32) h3) else none
set_option maxRecDepth 20000 in
theorem m_X8_spiral {l : Launch} {w : WK} {h : TT}  {x : (Int32 × TT)} (hx : f_X8_spiral h  = some x)  : Met l yX8_spiral (Cond.code yX8_spiral cX8_spiral 6 (some .int) :: wsG) { frames := 11, cells := 0, slots := 0, locals := 241 } (PG w [.ref (w.2.1 (147))] h) (QG w (fIT x)) 0 0 (AA w) := by
  refine m_entry (own := RX8) (f := fIT) hx (by decide) rfl (Nat.le_of_ble_eq_true rfl) (fun p e s m args below meth c C => ?_)
  show GO p l e _ s m args below meth c w 6 fIT (f_X8_spiral h ) 0 [(0, .ref (w.2.1 (147)))] [] h
  unfold f_X8_spiral
  refine g_aload_n (pc := 0) C 0 rfl dX8_spiral_0 rfl ?_
  refine g_get (pc := 1) C so_RX8 20 fl_RX8_48 (v := .ref (w.2.1 (160))) rfl dX8_spiral_1 ?_
  refine g_iconst (pc := 4) (v := 0) C dX8_spiral_4 kc_0 ?_
  refine g_zald (pc := 5) C sz_160 dX8_spiral_5 (fun hb1 => ?_)
  refine g_if_ne (pc := 6) (tgt := 12) C dX8_spiral_6 (by decide) (fun hc2 => ?_) (fun hc2 => ?_)
  · refine g_bipush (pc := 9) (v := -4) C dX8_spiral_9 kb_m4 ?_
    exact g_iretT C dX8_spiral_11
  · refine g_bipush (pc := 12) (v := -9) C dX8_spiral_12 kb_m9 ?_
    refine g_istore_n (pc := 14) C dX8_spiral_14 rfl (by decide) (lv' := [(1, .int (-9 : Int32)), (0, .ref (w.2.1 (147)))]) rfl ?_
    refine g_iconst (pc := 15) (v := 0) C dX8_spiral_15 kc_0 ?_
    refine g_istore_n (pc := 16) C dX8_spiral_16 rfl (by decide) (lv' := [(2, .int (0 : Int32)), (1, .int (-9 : Int32)), (0, .ref (w.2.1 (147)))]) rfl ?_
    refine g_aload_n (pc := 17) C 2 rfl dX8_spiral_17 rfl ?_
    refine g_callV (pc := 18) (rest := []) (g_runV C mv_RX8_257 (fun x1 hx1 => m_X8_layOwn hx1) so_RX8 rfl (by decide) rfl rfl (Nat.le_of_ble_eq_true rfl) dX8_spiral_18) (fun h3 => ?_)
    refine g_iconst (pc := 21) (v := 1) C dX8_spiral_21 kc_1 ?_
    refine g_aload_n (pc := 22) C 2 rfl dX8_spiral_22 rfl ?_
    refine g_bipush (pc := 23) (v := 6) C dX8_spiral_23 kb_6 ?_
    refine g_callI (pc := 25) (rest := [.int (1 : Int32)]) (g_runV C mv_RX8_154 (fun x1 hx1 => m_X8_v hx1) so_RX8 rfl (by decide) rfl rfl (Nat.le_of_ble_eq_true rfl) dX8_spiral_25) (fun r4 => ?_)
    refine g_ishl (pc := 28) C dX8_spiral_28 ?_
    refine g_nmi (fun y5 => ?_)
    refine g_istore_n (pc := 29) C dX8_spiral_29 rfl (by decide) (lv' := [(3, .int y5), (2, .int (0 : Int32)), (1, .int (-9 : Int32)), (0, .ref (w.2.1 (147)))]) rfl ?_
    refine g_iconst (pc := 30) (v := 0) C dX8_spiral_30 kc_0 ?_
    refine g_istore (pc := 31) C dX8_spiral_31 (by decide) (lv' := [(4, .int (0 : Int32)), (3, .int y5), (2, .int (0 : Int32)), (1, .int (-9 : Int32)), (0, .ref (w.2.1 (147)))]) rfl ?_
    refine g_lv (lv' := [(0, .ref (w.2.1 (147))), (1, .int (-9 : Int32)), (2, .int (0 : Int32)), (3, .int y5), (4, .int (0 : Int32))]) [4, 3, 2, 1, 0] rfl ?_
    exact j_X8_spiral_33 C KF (-9 : Int32) (0 : Int32) y5 (0 : Int32) h3
/-- SnowHouseModel.slips(I)Z -/
def f_X8_slips_57   (x3 : Int32) (xs0 : Int32) (xs1 : Int32) (h : TT) : Option (Int32 × TT) := (f_X8_put_ h xs1 xs0).bind fun h9 => if isZ x3 = true then some (x3, h9) else none
set_option maxRecDepth 20000 in
theorem j_X8_slips_57 {p : Program} {l : Launch} {e : Env} {R : Room} {s : State} {m : MethodId} {args : Array Value} {below : List Frame} {meth : Method} {c : Code} {w : WK} (C : CX p R s m args meth c w RX8 cX8_slips 6 (some .boolean) 2 43)     (x3 : Int32) (xs0 : Int32) (xs1 : Int32)  (h : TT) : GO p l e R s m args below meth c w 6 fIT (f_X8_slips_57 x3 xs0 xs1 h) 57 [(3, .int x3)] [.int xs0, .int xs1, .ref (w.2.1 (147))] h := by
  unfold f_X8_slips_57
  refine g_callV (pc := 57) (rest := []) (g_runV C mv_RX8_163 (fun x1 hx1 => m_X8_put_ hx1) so_RX8 rfl (by decide) rfl rfl (Nat.le_of_ble_eq_true rfl) dX8_slips_57) (fun h9 => ?_)
  refine g_iload_n (pc := 60) C 0 rfl dX8_slips_60 rfl ?_
  refine g_guard (fun hz10 => ?_)
  exact g_zretT C dX8_slips_61 hz10
def f_X8_slips_32   (xs0 : Int32) (xs1 : Int32) (h : TT) : Option (Int32 × TT) := nm (xs1 + xs0) fun y5 => (f_X8_in h y5 (1 : Int32) (9 : Int32)).bind fun r6 => (if r6 = 0 then (f_X8_v h (4 : Int32)).bind fun r8 => f_X8_slips_57 r6 r8 (4 : Int32) h else f_X8_slips_57 r6 y5 (4 : Int32) h)
set_option maxRecDepth 20000 in
theorem j_X8_slips_32 {p : Program} {l : Launch} {e : Env} {R : Room} {s : State} {m : MethodId} {args : Array Value} {below : List Frame} {meth : Method} {c : Code} {w : WK} (C : CX p R s m args meth c w RX8 cX8_slips 6 (some .boolean) 2 43)     (xs0 : Int32) (xs1 : Int32)  (h : TT) : GO p l e R s m args below meth c w 6 fIT (f_X8_slips_32 xs0 xs1 h) 32 [(0, .ref (w.2.1 (147)))] [.int xs0, .int xs1] h := by
  unfold f_X8_slips_32
  refine g_iadd (pc := 32) C dX8_slips_32 ?_
  refine g_nmi (fun y5 => ?_)
  refine g_istore_n (pc := 33) C dX8_slips_33 rfl (by decide) (lv' := [(2, .int y5), (0, .ref (w.2.1 (147)))]) rfl ?_
  refine g_iload_n (pc := 34) C 0 rfl dX8_slips_34 rfl ?_
  refine g_iconst (pc := 35) (v := 1) C dX8_slips_35 kc_1 ?_
  refine g_bipush (pc := 36) (v := 9) C dX8_slips_36 kb_9 ?_
  refine g_callI (pc := 38) (rest := []) (g_runS C ms_RX8_71 (fun x1 hx1 => m_X8_in hx1) (by decide) rfl rfl (Nat.le_of_ble_eq_true rfl) dX8_slips_38) (fun r6 => ?_)
  refine g_istore_n (pc := 41) C dX8_slips_41 rfl (by decide) (lv' := [(3, .int r6), (2, .int y5), (0, .ref (w.2.1 (147)))]) rfl ?_
  refine g_aload_n (pc := 42) C 2 rfl dX8_slips_42 rfl ?_
  refine g_iconst (pc := 43) (v := 4) C dX8_slips_43 kc_4 ?_
  refine g_iload_n (pc := 44) C 0 rfl dX8_slips_44 rfl ?_
  refine g_if_eq (pc := 45) (tgt := 52) C dX8_slips_45 (by decide) (fun hc7 => ?_) (fun hc7 => ?_)
  · refine g_aload_n (pc := 52) C 2 rfl dX8_slips_52 rfl ?_
    refine g_iconst (pc := 53) (v := 4) C dX8_slips_53 kc_4 ?_
    refine g_callI (pc := 54) (rest := [.int (4 : Int32), .ref (w.2.1 (147))]) (g_runV C mv_RX8_154 (fun x1 hx1 => m_X8_v hx1) so_RX8 rfl (by decide) rfl rfl (Nat.le_of_ble_eq_true rfl) dX8_slips_54) (fun r8 => ?_)
    refine g_lv (lv' := [(3, .int r6)]) [0] rfl ?_
    exact j_X8_slips_57 C r6 r8 (4 : Int32) h
  · refine g_iload_n (pc := 48) C 1 rfl dX8_slips_48 rfl ?_
    refine g_goto (pc := 49) (tgt := 57) C dX8_slips_49 (by decide) ?_
    refine g_lv (lv' := [(3, .int r6)]) [0] rfl ?_
    exact j_X8_slips_57 C r6 y5 (4 : Int32) h
def f_X8_slips_16   (x1 : Int32) (h : TT) : Option (Int32 × TT) := (f_X8_v h (4 : Int32)).bind fun r3 => (if x1 = (80 : Int32) then f_X8_slips_32 (-1 : Int32) r3 h else f_X8_slips_32 (1 : Int32) r3 h)
set_option maxRecDepth 20000 in
theorem j_X8_slips_16 {p : Program} {l : Launch} {e : Env} {R : Room} {s : State} {m : MethodId} {args : Array Value} {below : List Frame} {meth : Method} {c : Code} {w : WK} (C : CX p R s m args meth c w RX8 cX8_slips 6 (some .boolean) 2 43)     (x1 : Int32)  (h : TT) : GO p l e R s m args below meth c w 6 fIT (f_X8_slips_16 x1 h) 16 [(0, .ref (w.2.1 (147))), (1, .int x1)] [] h := by
  unfold f_X8_slips_16
  refine g_aload_n (pc := 16) C 0 rfl dX8_slips_16 rfl ?_
  refine g_iconst (pc := 17) (v := 4) C dX8_slips_17 kc_4 ?_
  refine g_callI (pc := 18) (rest := []) (g_runV C mv_RX8_154 (fun x1 hx1 => m_X8_v hx1) so_RX8 rfl (by decide) rfl rfl (Nat.le_of_ble_eq_true rfl) dX8_slips_18) (fun r3 => ?_)
  refine g_iload_n (pc := 21) C 1 rfl dX8_slips_21 rfl ?_
  refine g_bipush (pc := 22) (v := 80) C dX8_slips_22 kb_80 ?_
  refine g_icmp_ne (pc := 24) (tgt := 31) C dX8_slips_24 (by decide) (fun hc4 => ?_) (fun hc4 => ?_)
  · refine g_iconst (pc := 27) (v := -1) C dX8_slips_27 kc_m1 ?_
    refine g_goto (pc := 28) (tgt := 32) C dX8_slips_28 (by decide) ?_
    refine g_lv (lv' := [(0, .ref (w.2.1 (147)))]) [0] rfl ?_
    exact j_X8_slips_32 C (-1 : Int32) r3 h
  · refine g_iconst (pc := 31) (v := 1) C dX8_slips_31 kc_1 ?_
    refine g_lv (lv' := [(0, .ref (w.2.1 (147)))]) [0] rfl ?_
    exact j_X8_slips_32 C (1 : Int32) r3 h
def f_X8_slips_143   (x5 : Int32) (xs0 : Int32) (xs1 : Int32) (h : TT) : Option (Int32 × TT) := (f_X8_put_ h xs1 xs0).bind fun h23 => if isZ x5 = true then some (x5, h23) else none
set_option maxRecDepth 20000 in
theorem j_X8_slips_143 {p : Program} {l : Launch} {e : Env} {R : Room} {s : State} {m : MethodId} {args : Array Value} {below : List Frame} {meth : Method} {c : Code} {w : WK} (C : CX p R s m args meth c w RX8 cX8_slips 6 (some .boolean) 2 43)     (x5 : Int32) (xs0 : Int32) (xs1 : Int32)  (h : TT) : GO p l e R s m args below meth c w 6 fIT (f_X8_slips_143 x5 xs0 xs1 h) 143 [(5, .int x5)] [.int xs0, .int xs1, .ref (w.2.1 (147))] h := by
  unfold f_X8_slips_143
  refine g_callV (pc := 143) (rest := []) (g_runV C mv_RX8_163 (fun x1 hx1 => m_X8_put_ hx1) so_RX8 rfl (by decide) rfl rfl (Nat.le_of_ble_eq_true rfl) dX8_slips_143) (fun h23 => ?_)
  refine g_iload (pc := 146) C 0 rfl dX8_slips_146 ?_
  refine g_guard (fun hz24 => ?_)
  exact g_zretT C dX8_slips_148 hz24
def f_X8_slips_106   (x2 : Int32) (xs0 : Int32) (xs1 : Int32) (h : TT) : Option (Int32 × TT) := nm (xs1 + xs0) fun y19 => (f_X8_in h y19 (0 : Int32) (9 : Int32)).bind fun r20 => (if r20 = 0 then (f_X8_lean0 h x2).bind fun r22 => f_X8_slips_143 r20 r22 (((7 : Int32) + ((3 : Int32) * x2)) + (2 : Int32)) h else f_X8_slips_143 r20 y19 (((7 : Int32) + ((3 : Int32) * x2)) + (2 : Int32)) h)
set_option maxRecDepth 20000 in
theorem j_X8_slips_106 {p : Program} {l : Launch} {e : Env} {R : Room} {s : State} {m : MethodId} {args : Array Value} {below : List Frame} {meth : Method} {c : Code} {w : WK} (C : CX p R s m args meth c w RX8 cX8_slips 6 (some .boolean) 2 43)     (x2 : Int32) (xs0 : Int32) (xs1 : Int32)  (h : TT) : GO p l e R s m args below meth c w 6 fIT (f_X8_slips_106 x2 xs0 xs1 h) 106 [(0, .ref (w.2.1 (147))), (2, .int x2)] [.int xs0, .int xs1] h := by
  unfold f_X8_slips_106
  refine g_iadd (pc := 106) C dX8_slips_106 ?_
  refine g_nmi (fun y19 => ?_)
  refine g_istore (pc := 107) C dX8_slips_107 (by decide) (lv' := [(4, .int y19), (0, .ref (w.2.1 (147))), (2, .int x2)]) rfl ?_
  refine g_iload (pc := 109) C 0 rfl dX8_slips_109 ?_
  refine g_iconst (pc := 111) (v := 0) C dX8_slips_111 kc_0 ?_
  refine g_bipush (pc := 112) (v := 9) C dX8_slips_112 kb_9 ?_
  refine g_callI (pc := 114) (rest := []) (g_runS C ms_RX8_71 (fun x1 hx1 => m_X8_in hx1) (by decide) rfl rfl (Nat.le_of_ble_eq_true rfl) dX8_slips_114) (fun r20 => ?_)
  refine g_istore (pc := 117) C dX8_slips_117 (by decide) (lv' := [(5, .int r20), (4, .int y19), (0, .ref (w.2.1 (147))), (2, .int x2)]) rfl ?_
  refine g_aload_n (pc := 119) C 2 rfl dX8_slips_119 rfl ?_
  refine g_bipush (pc := 120) (v := 7) C dX8_slips_120 kb_7 ?_
  refine g_iconst (pc := 122) (v := 3) C dX8_slips_122 kc_3 ?_
  refine g_iload_n (pc := 123) C 3 rfl dX8_slips_123 rfl ?_
  refine g_imul (pc := 124) C dX8_slips_124 ?_
  refine g_iadd (pc := 125) C dX8_slips_125 ?_
  refine g_iconst (pc := 126) (v := 2) C dX8_slips_126 kc_2 ?_
  refine g_iadd (pc := 127) C dX8_slips_127 ?_
  refine g_iload (pc := 128) C 0 rfl dX8_slips_128 ?_
  refine g_if_eq (pc := 130) (tgt := 138) C dX8_slips_130 (by decide) (fun hc21 => ?_) (fun hc21 => ?_)
  · refine g_aload_n (pc := 138) C 2 rfl dX8_slips_138 rfl ?_
    refine g_iload_n (pc := 139) C 3 rfl dX8_slips_139 rfl ?_
    refine g_callI (pc := 140) (rest := [.int (((7 : Int32) + ((3 : Int32) * x2)) + (2 : Int32)), .ref (w.2.1 (147))]) (g_runV C mv_RX8_215 (fun x1 hx1 => m_X8_lean0 hx1) so_RX8 rfl (by decide) rfl rfl (Nat.le_of_ble_eq_true rfl) dX8_slips_140) (fun r22 => ?_)
    refine g_lv (lv' := [(5, .int r20)]) [0] rfl ?_
    exact j_X8_slips_143 C r20 r22 (((7 : Int32) + ((3 : Int32) * x2)) + (2 : Int32)) h
  · refine g_iload (pc := 133) C 1 rfl dX8_slips_133 ?_
    refine g_goto (pc := 135) (tgt := 143) C dX8_slips_135 (by decide) ?_
    refine g_lv (lv' := [(5, .int r20)]) [0] rfl ?_
    exact j_X8_slips_143 C r20 y19 (((7 : Int32) + ((3 : Int32) * x2)) + (2 : Int32)) h
def f_X8_slips (h : TT) (x1 : Int32) : Option (Int32 × TT) := (f_X8_layOwn h).bind fun h1 => (if x1 = (80 : Int32) then f_X8_slips_16 x1 h1 else (if x1 = (90 : Int32) then f_X8_slips_16 x1 h1 else nm (x1 / (10 : Int32)) fun y12 => nm (x1 - x1 / (10 : Int32) * (10 : Int32)) fun y13 => (f_X8_v h1 (6 : Int32)).bind fun r14 => (if r14 ≤ y12 then some ((0 : Int32), h1) else (if y13 ≤ (2 : Int32) then (f_X8_lean0 h1 y12).bind fun r17 => (if y13 = (2 : Int32) then f_X8_slips_106 y12 (-1 : Int32) r17 h1 else f_X8_slips_106 y12 (y13 + (1 : Int32)) r17 h1) else some ((0 : Int32), h1)))))
set_option maxRecDepth 20000 in
theorem m_X8_slips {l : Launch} {w : WK} {h : TT} {x1 : Int32} {x : (Int32 × TT)} (hx : f_X8_slips h x1 = some x)  : Met l yX8_slips (Cond.code yX8_slips cX8_slips 6 (some .boolean) :: wsG) { frames := 2, cells := 0, slots := 0, locals := 43 } (PG w [.ref (w.2.1 (147)), .int x1] h) (QG w (fIT x)) 0 0 (AA w) := by
  refine m_entry (own := RX8) (f := fIT) hx (by decide) rfl (Nat.le_of_ble_eq_true rfl) (fun p e s m args below meth c C => ?_)
  show GO p l e _ s m args below meth c w 6 fIT (f_X8_slips h x1) 0 [(0, .ref (w.2.1 (147))), (1, .int x1)] [] h
  unfold f_X8_slips
  refine g_aload_n (pc := 0) C 0 rfl dX8_slips_0 rfl ?_
  refine g_callV (pc := 1) (rest := []) (g_runV C mv_RX8_257 (fun x1 hx1 => m_X8_layOwn hx1) so_RX8 rfl (by decide) rfl rfl (Nat.le_of_ble_eq_true rfl) dX8_slips_1) (fun h1 => ?_)
  refine g_iload_n (pc := 4) C 1 rfl dX8_slips_4 rfl ?_
  refine g_bipush (pc := 5) (v := 80) C dX8_slips_5 kb_80 ?_
  refine g_icmp_eq (pc := 7) (tgt := 16) C dX8_slips_7 (by decide) (fun hc2 => ?_) (fun hc2 => ?_)
  · exact j_X8_slips_16 C x1 h1
  · refine g_iload_n (pc := 10) C 1 rfl dX8_slips_10 rfl ?_
    refine g_bipush (pc := 11) (v := 90) C dX8_slips_11 kb_90 ?_
    refine g_icmp_ne (pc := 13) (tgt := 62) C dX8_slips_13 (by decide) (fun hc11 => ?_) (fun hc11 => ?_)
    · exact j_X8_slips_16 C x1 h1
    · refine g_iload_n (pc := 62) C 1 rfl dX8_slips_62 rfl ?_
      refine g_bipush (pc := 63) (v := 10) C dX8_slips_63 kb_10 ?_
      refine g_idiv (pc := 65) C dX8_slips_65 (by decide) ?_
      refine g_nmi (fun y12 => ?_)
      refine g_istore_n (pc := 66) C dX8_slips_66 rfl (by decide) (lv' := [(2, .int y12), (0, .ref (w.2.1 (147))), (1, .int x1)]) rfl ?_
      refine g_iload_n (pc := 67) C 2 rfl dX8_slips_67 rfl ?_
      refine g_bipush (pc := 68) (v := 10) C dX8_slips_68 kb_10 ?_
      refine g_irem (pc := 70) C dX8_slips_70 (by decide) ?_
      refine g_nmi (fun y13 => ?_)
      refine g_istore_n (pc := 71) C dX8_slips_71 rfl (by decide) (lv' := [(3, .int y13), (2, .int y12), (0, .ref (w.2.1 (147))), (1, .int x1)]) rfl ?_
      refine g_iload_n (pc := 72) C 1 rfl dX8_slips_72 rfl ?_
      refine g_aload_n (pc := 73) C 2 rfl dX8_slips_73 rfl ?_
      refine g_bipush (pc := 74) (v := 6) C dX8_slips_74 kb_6 ?_
      refine g_callI (pc := 76) (rest := [.int y12]) (g_runV C mv_RX8_154 (fun x1 hx1 => m_X8_v hx1) so_RX8 rfl (by decide) rfl rfl (Nat.le_of_ble_eq_true rfl) dX8_slips_76) (fun r14 => ?_)
      refine g_icmp_ge (pc := 79) (tgt := 87) C dX8_slips_79 (by decide) (fun hc15 => ?_) (fun hc15 => ?_)
      · refine g_iconst (pc := 87) (v := 0) C dX8_slips_87 kc_0 ?_
        exact g_zretT C dX8_slips_88 rfl
      · refine g_iload_n (pc := 82) C 0 rfl dX8_slips_82 rfl ?_
        refine g_iconst (pc := 83) (v := 2) C dX8_slips_83 kc_2 ?_
        refine g_icmp_le (pc := 84) (tgt := 89) C dX8_slips_84 (by decide) (fun hc16 => ?_) (fun hc16 => ?_)
        · refine g_aload_n (pc := 89) C 2 rfl dX8_slips_89 rfl ?_
          refine g_iload_n (pc := 90) C 1 rfl dX8_slips_90 rfl ?_
          refine g_callI (pc := 91) (rest := []) (g_runV C mv_RX8_215 (fun x1 hx1 => m_X8_lean0 hx1) so_RX8 rfl (by decide) rfl rfl (Nat.le_of_ble_eq_true rfl) dX8_slips_91) (fun r17 => ?_)
          refine g_iload_n (pc := 94) C 0 rfl dX8_slips_94 rfl ?_
          refine g_iconst (pc := 95) (v := 2) C dX8_slips_95 kc_2 ?_
          refine g_icmp_ne (pc := 96) (tgt := 103) C dX8_slips_96 (by decide) (fun hc18 => ?_) (fun hc18 => ?_)
          · refine g_iconst (pc := 99) (v := -1) C dX8_slips_99 kc_m1 ?_
            refine g_goto (pc := 100) (tgt := 106) C dX8_slips_100 (by decide) ?_
            refine g_lv (lv' := [(0, .ref (w.2.1 (147))), (2, .int y12)]) [2, 1] rfl ?_
            exact j_X8_slips_106 C y12 (-1 : Int32) r17 h1
          · refine g_iload_n (pc := 103) C 0 rfl dX8_slips_103 rfl ?_
            refine g_iconst (pc := 104) (v := 1) C dX8_slips_104 kc_1 ?_
            refine g_iadd (pc := 105) C dX8_slips_105 ?_
            refine g_lv (lv' := [(0, .ref (w.2.1 (147))), (2, .int y12)]) [2, 1] rfl ?_
            exact j_X8_slips_106 C y12 (y13 + (1 : Int32)) r17 h1
        · refine g_iconst (pc := 87) (v := 0) C dX8_slips_87 kc_0 ?_
          exact g_zretT C dX8_slips_88 rfl
/-- SnowHouseModel.isAs(I)Z -/
def f_X8_isAs_43 (h : TT)  (k4 : Int32 → Int32 → Int32 → Option Int32) (x1 : Int32) (x3 : Int32) (xs0 : Int32) : Option Int32 := k4 x1 xs0 (x3 + (1 : Int32))
set_option maxRecDepth 20000 in
theorem j_X8_isAs_43 {p : Program} {l : Launch} {e : Env} {R : Room} {s : State} {m : MethodId} {args : Array Value} {below : List Frame} {meth : Method} {c : Code} {w : WK} (C : CX p R s m args meth c w RX8 cX8_isAs 4 (some .boolean) 4 85) (h : TT)   {k4 : Int32 → Int32 → Int32 → Option Int32} (hk4 : ∀ (x1 : Int32) (x2 : Int32) (x3 : Int32) , GO p l e R s m args below meth c w 4 (fI h) (k4 x1 x2 x3) 4 [(0, .ref (w.2.1 (147))), (1, .int x1), (2, .int x2), (3, .int x3)] [] h) (x1 : Int32) (x3 : Int32) (xs0 : Int32)  : GO p l e R s m args below meth c w 4 (fI h) (f_X8_isAs_43 h k4 x1 x3 xs0) 43 [(0, .ref (w.2.1 (147))), (1, .int x1), (3, .int x3)] [.int xs0] h := by
  unfold f_X8_isAs_43
  refine g_istore_n (pc := 43) C dX8_isAs_43 rfl (by decide) (lv' := [(2, .int xs0), (0, .ref (w.2.1 (147))), (1, .int x1), (3, .int x3)]) rfl ?_
  refine g_iinc (pc := 44) C 3 rfl dX8_isAs_44 (ki_1 _) (by decide) (lv' := [(3, .int (x3 + (1 : Int32))), (2, .int xs0), (0, .ref (w.2.1 (147))), (1, .int x1)]) rfl ?_
  refine g_goto (pc := 47) (tgt := 4) C dX8_isAs_47 (by decide) ?_
  refine g_lv (lv' := [(0, .ref (w.2.1 (147))), (1, .int x1), (2, .int xs0), (3, .int (x3 + (1 : Int32)))]) [2, 3, 1, 0] rfl ?_
  exact hk4 x1 xs0 (x3 + (1 : Int32))
def f_X8_isAs_42 (h : TT)  (k4 : Int32 → Int32 → Int32 → Option Int32) (x1 : Int32) (x3 : Int32) : Option Int32 := f_X8_isAs_43 h k4 x1 x3 (0 : Int32)
set_option maxRecDepth 20000 in
theorem j_X8_isAs_42 {p : Program} {l : Launch} {e : Env} {R : Room} {s : State} {m : MethodId} {args : Array Value} {below : List Frame} {meth : Method} {c : Code} {w : WK} (C : CX p R s m args meth c w RX8 cX8_isAs 4 (some .boolean) 4 85) (h : TT)   {k4 : Int32 → Int32 → Int32 → Option Int32} (hk4 : ∀ (x1 : Int32) (x2 : Int32) (x3 : Int32) , GO p l e R s m args below meth c w 4 (fI h) (k4 x1 x2 x3) 4 [(0, .ref (w.2.1 (147))), (1, .int x1), (2, .int x2), (3, .int x3)] [] h) (x1 : Int32) (x3 : Int32)  : GO p l e R s m args below meth c w 4 (fI h) (f_X8_isAs_42 h k4 x1 x3) 42 [(0, .ref (w.2.1 (147))), (1, .int x1), (3, .int x3)] [] h := by
  unfold f_X8_isAs_42
  refine g_iconst (pc := 42) (v := 0) C dX8_isAs_42 kc_0 ?_
  exact j_X8_isAs_43 C h hk4 x1 x3 (0 : Int32)
def f_X8_isAs_29 (h : TT)  (k4 : Int32 → Int32 → Int32 → Option Int32) (x1 : Int32) (x3 : Int32) (xs0 : Int32) : Option Int32 := (f_X8_rowAt h x1 x3).bind fun r7 => (if xs0 = r7 then f_X8_isAs_43 h k4 x1 x3 (1 : Int32) else f_X8_isAs_42 h k4 x1 x3)
set_option maxRecDepth 20000 in
theorem j_X8_isAs_29 {p : Program} {l : Launch} {e : Env} {R : Room} {s : State} {m : MethodId} {args : Array Value} {below : List Frame} {meth : Method} {c : Code} {w : WK} (C : CX p R s m args meth c w RX8 cX8_isAs 4 (some .boolean) 4 85) (h : TT)   {k4 : Int32 → Int32 → Int32 → Option Int32} (hk4 : ∀ (x1 : Int32) (x2 : Int32) (x3 : Int32) , GO p l e R s m args below meth c w 4 (fI h) (k4 x1 x2 x3) 4 [(0, .ref (w.2.1 (147))), (1, .int x1), (2, .int x2), (3, .int x3)] [] h) (x1 : Int32) (x3 : Int32) (xs0 : Int32)  : GO p l e R s m args below meth c w 4 (fI h) (f_X8_isAs_29 h k4 x1 x3 xs0) 29 [(0, .ref (w.2.1 (147))), (1, .int x1), (3, .int x3)] [.int xs0] h := by
  unfold f_X8_isAs_29
  refine g_aload_n (pc := 29) C 0 rfl dX8_isAs_29 rfl ?_
  refine g_iload_n (pc := 30) C 1 rfl dX8_isAs_30 rfl ?_
  refine g_iload_n (pc := 31) C 2 rfl dX8_isAs_31 rfl ?_
  refine g_callI (pc := 32) (rest := [.int xs0]) (g_runV C mv_RX8_89 (fun x1 hx1 => m_X8_rowAt hx1) so_RX8 rfl (by decide) rfl rfl (Nat.le_of_ble_eq_true rfl) dX8_isAs_32) (fun r7 => ?_)
  refine g_icmp_ne (pc := 35) (tgt := 42) C dX8_isAs_35 (by decide) (fun hc8 => ?_) (fun hc8 => ?_)
  · refine g_iconst (pc := 38) (v := 1) C dX8_isAs_38 kc_1 ?_
    refine g_goto (pc := 39) (tgt := 43) C dX8_isAs_39 (by decide) ?_
    exact j_X8_isAs_43 C h hk4 x1 x3 (1 : Int32)
  · exact j_X8_isAs_42 C h hk4 x1 x3
def f_X8_isAs_4 (h : TT)   : Nat → Int32 → Int32 → Int32 → Option Int32
  | 0, _, _, _ => none
  | n + 1, x1, x2, x3 => (f_X8_all h).bind fun r1 => (if r1 ≤ x3 then if isZ x2 = true then some x2 else none else (if x2 = 0 then f_X8_isAs_42 h (f_X8_isAs_4 h n) x1 x3 else (f_X8_hasSlumped h x3).bind fun r5 => (if r5 = 0 then f_X8_isAs_29 h (f_X8_isAs_4 h n) x1 x3 (0 : Int32) else f_X8_isAs_29 h (f_X8_isAs_4 h n) x1 x3 (1 : Int32))))
set_option maxRecDepth 20000 in
theorem j_X8_isAs_4 {p : Program} {l : Launch} {e : Env} {R : Room} {s : State} {m : MethodId} {args : Array Value} {below : List Frame} {meth : Method} {c : Code} {w : WK} (C : CX p R s m args meth c w RX8 cX8_isAs 4 (some .boolean) 4 85) (h : TT)    : ∀ (n : Nat) (x1 : Int32) (x2 : Int32) (x3 : Int32), GO p l e R s m args below meth c w 4 (fI h) (f_X8_isAs_4 h n x1 x2 x3) 4 [(0, .ref (w.2.1 (147))), (1, .int x1), (2, .int x2), (3, .int x3)] [] h := by
  intro n
  induction n with
  | zero =>
    intro x1 x2 x3
    exact g_none
  | succ n ih =>
    intro x1 x2 x3
    rw [f_X8_isAs_4]
    refine g_iload_n (pc := 4) C 3 rfl dX8_isAs_4 rfl ?_
    refine g_aload_n (pc := 5) C 0 rfl dX8_isAs_5 rfl ?_
    refine g_callI (pc := 6) (rest := [.int x3]) (g_runV C mv_RX8_178 (fun x1 hx1 => m_X8_all hx1) so_RX8 rfl (by decide) rfl rfl (Nat.le_of_ble_eq_true rfl) dX8_isAs_6) (fun r1 => ?_)
    refine g_icmp_ge (pc := 9) (tgt := 50) C dX8_isAs_9 (by decide) (fun hc2 => ?_) (fun hc2 => ?_)
    · refine g_iload_n (pc := 50) C 2 rfl dX8_isAs_50 rfl ?_
      refine g_guard (fun hz3 => ?_)
      exact g_zret C dX8_isAs_51 hz3
    · refine g_iload_n (pc := 12) C 2 rfl dX8_isAs_12 rfl ?_
      refine g_if_eq (pc := 13) (tgt := 42) C dX8_isAs_13 (by decide) (fun hc4 => ?_) (fun hc4 => ?_)
      · refine g_lv (lv' := [(0, .ref (w.2.1 (147))), (1, .int x1), (3, .int x3)]) [0, 1, 3] rfl ?_
        exact j_X8_isAs_42 C h ih x1 x3
      · refine g_aload_n (pc := 16) C 0 rfl dX8_isAs_16 rfl ?_
        refine g_iload_n (pc := 17) C 3 rfl dX8_isAs_17 rfl ?_
        refine g_callI (pc := 18) (rest := []) (g_runV C mv_RX8_185 (fun x1 hx1 => m_X8_hasSlumped hx1) so_RX8 rfl (by decide) rfl rfl (Nat.le_of_ble_eq_true rfl) dX8_isAs_18) (fun r5 => ?_)
        refine g_if_eq (pc := 21) (tgt := 28) C dX8_isAs_21 (by decide) (fun hc6 => ?_) (fun hc6 => ?_)
        · refine g_iconst (pc := 28) (v := 0) C dX8_isAs_28 kc_0 ?_
          refine g_lv (lv' := [(0, .ref (w.2.1 (147))), (1, .int x1), (3, .int x3)]) [0, 1, 3] rfl ?_
          exact j_X8_isAs_29 C h ih x1 x3 (0 : Int32)
        · refine g_iconst (pc := 24) (v := 1) C dX8_isAs_24 kc_1 ?_
          refine g_goto (pc := 25) (tgt := 29) C dX8_isAs_25 (by decide) ?_
          refine g_lv (lv' := [(0, .ref (w.2.1 (147))), (1, .int x1), (3, .int x3)]) [0, 1, 3] rfl ?_
          exact j_X8_isAs_29 C h ih x1 x3 (1 : Int32)
def f_X8_isAs (h : TT) (x1 : Int32) : Option Int32 := f_X8_isAs_4 h KF x1 (1 : Int32) (0 : Int32)
set_option maxRecDepth 20000 in
theorem m_X8_isAs {l : Launch} {w : WK} {h : TT} {x1 : Int32} {x : Int32} (hx : f_X8_isAs h x1 = some x)  : Met l yX8_isAs (Cond.code yX8_isAs cX8_isAs 4 (some .boolean) :: wsG) { frames := 4, cells := 0, slots := 0, locals := 85 } (PG w [.ref (w.2.1 (147)), .int x1] h) (QG w ((fI h) x)) 0 0 (AA w) := by
  refine m_entry (own := RX8) (f := (fI h)) hx (by decide) rfl (Nat.le_of_ble_eq_true rfl) (fun p e s m args below meth c C => ?_)
  show GO p l e _ s m args below meth c w 4 (fI h) (f_X8_isAs h x1) 0 [(0, .ref (w.2.1 (147))), (1, .int x1)] [] h
  unfold f_X8_isAs
  refine g_iconst (pc := 0) (v := 1) C dX8_isAs_0 kc_1 ?_
  refine g_istore_n (pc := 1) C dX8_isAs_1 rfl (by decide) (lv' := [(2, .int (1 : Int32)), (0, .ref (w.2.1 (147))), (1, .int x1)]) rfl ?_
  refine g_iconst (pc := 2) (v := 0) C dX8_isAs_2 kc_0 ?_
  refine g_istore_n (pc := 3) C dX8_isAs_3 rfl (by decide) (lv' := [(3, .int (0 : Int32)), (2, .int (1 : Int32)), (0, .ref (w.2.1 (147))), (1, .int x1)]) rfl ?_
  refine g_lv (lv' := [(0, .ref (w.2.1 (147))), (1, .int x1), (2, .int (1 : Int32)), (3, .int (0 : Int32))]) [2, 3, 1, 0] rfl ?_
  exact j_X8_isAs_4 C h KF x1 (1 : Int32) (0 : Int32)
/-- SnowHouseModel.fell(I)I -/
def f_X8_fell_183  (k123 : Int32 → Int32 → Int32 → Int32 → TT → Option (Int32 × TT)) (x1 : Int32) (x3 : Int32) (x4 : Int32) (x5 : Int32) (h : TT) : Option (Int32 × TT) := k123 x1 x3 x4 (x5 + (1 : Int32)) h
set_option maxRecDepth 20000 in
theorem j_X8_fell_183 {p : Program} {l : Launch} {e : Env} {R : Room} {s : State} {m : MethodId} {args : Array Value} {below : List Frame} {meth : Method} {c : Code} {w : WK} (C : CX p R s m args meth c w RX8 cX8_fell 7 (some .int) 11 241)    {k123 : Int32 → Int32 → Int32 → Int32 → TT → Option (Int32 × TT)} (hk123 : ∀ (x1 : Int32) (x3 : Int32) (x4 : Int32) (x5 : Int32)  (h : TT), GO p l e R s m args below meth c w 7 fIT (k123 x1 x3 x4 x5 h) 123 [(0, .ref (w.2.1 (147))), (1, .int x1), (3, .int x3), (4, .int x4), (5, .int x5)] [] h) (x1 : Int32) (x3 : Int32) (x4 : Int32) (x5 : Int32)  (h : TT) : GO p l e R s m args below meth c w 7 fIT (f_X8_fell_183 k123 x1 x3 x4 x5 h) 183 [(0, .ref (w.2.1 (147))), (1, .int x1), (3, .int x3), (4, .int x4), (5, .int x5)] [] h := by
  unfold f_X8_fell_183
  refine g_iinc (pc := 183) C 4 rfl dX8_fell_183 (ki_1 _) (by decide) (lv' := [(5, .int (x5 + (1 : Int32))), (0, .ref (w.2.1 (147))), (1, .int x1), (3, .int x3), (4, .int x4)]) rfl ?_
  refine g_goto (pc := 186) (tgt := 123) C dX8_fell_186 (by decide) ?_
  refine g_lv (lv' := [(0, .ref (w.2.1 (147))), (1, .int x1), (3, .int x3), (4, .int x4), (5, .int (x5 + (1 : Int32)))]) [1, 2, 3, 4, 0] rfl ?_
  exact hk123 x1 x3 x4 (x5 + (1 : Int32)) h
def f_X8_fell_180  (k123 : Int32 → Int32 → Int32 → Int32 → TT → Option (Int32 × TT)) (x1 : Int32) (x3 : Int32) (x5 : Int32) (xs0 : Int32) (xs1 : Int32) (h : TT) : Option (Int32 × TT) := nm (xs1 + xs0) fun y24 => f_X8_fell_183 k123 x1 x3 y24 x5 h
set_option maxRecDepth 20000 in
theorem j_X8_fell_180 {p : Program} {l : Launch} {e : Env} {R : Room} {s : State} {m : MethodId} {args : Array Value} {below : List Frame} {meth : Method} {c : Code} {w : WK} (C : CX p R s m args meth c w RX8 cX8_fell 7 (some .int) 11 241)    {k123 : Int32 → Int32 → Int32 → Int32 → TT → Option (Int32 × TT)} (hk123 : ∀ (x1 : Int32) (x3 : Int32) (x4 : Int32) (x5 : Int32)  (h : TT), GO p l e R s m args below meth c w 7 fIT (k123 x1 x3 x4 x5 h) 123 [(0, .ref (w.2.1 (147))), (1, .int x1), (3, .int x3), (4, .int x4), (5, .int x5)] [] h) (x1 : Int32) (x3 : Int32) (x5 : Int32) (xs0 : Int32) (xs1 : Int32)  (h : TT) : GO p l e R s m args below meth c w 7 fIT (f_X8_fell_180 k123 x1 x3 x5 xs0 xs1 h) 180 [(0, .ref (w.2.1 (147))), (1, .int x1), (3, .int x3), (5, .int x5)] [.int xs0, .int xs1] h := by
  unfold f_X8_fell_180
  refine g_iadd (pc := 180) C dX8_fell_180 ?_
  refine g_nmi (fun y24 => ?_)
  refine g_istore (pc := 181) C dX8_fell_181 (by decide) (lv' := [(4, .int y24), (0, .ref (w.2.1 (147))), (1, .int x1), (3, .int x3), (5, .int x5)]) rfl ?_
  refine g_lv (lv' := [(0, .ref (w.2.1 (147))), (1, .int x1), (3, .int x3), (4, .int y24), (5, .int x5)]) [1, 2, 3, 0, 4] rfl ?_
  exact j_X8_fell_183 C hk123 x1 x3 y24 x5 h
def f_X8_fell_167  (k123 : Int32 → Int32 → Int32 → Int32 → TT → Option (Int32 × TT)) (x1 : Int32) (x4 : Int32) (x5 : Int32) (x6 : Int32) (xs0 : Int32) (h : TT) : Option (Int32 × TT) := (if x6 = 0 then f_X8_fell_180 k123 x1 xs0 x5 (0 : Int32) x4 h else f_X8_fell_180 k123 x1 xs0 x5 (1 : Int32) x4 h)
set_option maxRecDepth 20000 in
theorem j_X8_fell_167 {p : Program} {l : Launch} {e : Env} {R : Room} {s : State} {m : MethodId} {args : Array Value} {below : List Frame} {meth : Method} {c : Code} {w : WK} (C : CX p R s m args meth c w RX8 cX8_fell 7 (some .int) 11 241)    {k123 : Int32 → Int32 → Int32 → Int32 → TT → Option (Int32 × TT)} (hk123 : ∀ (x1 : Int32) (x3 : Int32) (x4 : Int32) (x5 : Int32)  (h : TT), GO p l e R s m args below meth c w 7 fIT (k123 x1 x3 x4 x5 h) 123 [(0, .ref (w.2.1 (147))), (1, .int x1), (3, .int x3), (4, .int x4), (5, .int x5)] [] h) (x1 : Int32) (x4 : Int32) (x5 : Int32) (x6 : Int32) (xs0 : Int32)  (h : TT) : GO p l e R s m args below meth c w 7 fIT (f_X8_fell_167 k123 x1 x4 x5 x6 xs0 h) 167 [(0, .ref (w.2.1 (147))), (1, .int x1), (4, .int x4), (5, .int x5), (6, .int x6)] [.int xs0] h := by
  unfold f_X8_fell_167
  refine g_istore_n (pc := 167) C dX8_fell_167 rfl (by decide) (lv' := [(3, .int xs0), (0, .ref (w.2.1 (147))), (1, .int x1), (4, .int x4), (5, .int x5), (6, .int x6)]) rfl ?_
  refine g_iload (pc := 168) C 3 rfl dX8_fell_168 ?_
  refine g_iload (pc := 170) C 5 rfl dX8_fell_170 ?_
  refine g_if_eq (pc := 172) (tgt := 179) C dX8_fell_172 (by decide) (fun hc23 => ?_) (fun hc23 => ?_)
  · refine g_iconst (pc := 179) (v := 0) C dX8_fell_179 kc_0 ?_
    refine g_lv (lv' := [(0, .ref (w.2.1 (147))), (1, .int x1), (3, .int xs0), (5, .int x5)]) [1, 2, 0, 4] rfl ?_
    exact j_X8_fell_180 C hk123 x1 xs0 x5 (0 : Int32) x4 h
  · refine g_iconst (pc := 175) (v := 1) C dX8_fell_175 kc_1 ?_
    refine g_goto (pc := 176) (tgt := 180) C dX8_fell_176 (by decide) ?_
    refine g_lv (lv' := [(0, .ref (w.2.1 (147))), (1, .int x1), (3, .int xs0), (5, .int x5)]) [1, 2, 0, 4] rfl ?_
    exact j_X8_fell_180 C hk123 x1 xs0 x5 (1 : Int32) x4 h
def f_X8_fell_166  (k123 : Int32 → Int32 → Int32 → Int32 → TT → Option (Int32 × TT)) (x1 : Int32) (x3 : Int32) (x4 : Int32) (x5 : Int32) (x6 : Int32) (h : TT) : Option (Int32 × TT) := f_X8_fell_167 k123 x1 x4 x5 x6 x3 h
set_option maxRecDepth 20000 in
theorem j_X8_fell_166 {p : Program} {l : Launch} {e : Env} {R : Room} {s : State} {m : MethodId} {args : Array Value} {below : List Frame} {meth : Method} {c : Code} {w : WK} (C : CX p R s m args meth c w RX8 cX8_fell 7 (some .int) 11 241)    {k123 : Int32 → Int32 → Int32 → Int32 → TT → Option (Int32 × TT)} (hk123 : ∀ (x1 : Int32) (x3 : Int32) (x4 : Int32) (x5 : Int32)  (h : TT), GO p l e R s m args below meth c w 7 fIT (k123 x1 x3 x4 x5 h) 123 [(0, .ref (w.2.1 (147))), (1, .int x1), (3, .int x3), (4, .int x4), (5, .int x5)] [] h) (x1 : Int32) (x3 : Int32) (x4 : Int32) (x5 : Int32) (x6 : Int32)  (h : TT) : GO p l e R s m args below meth c w 7 fIT (f_X8_fell_166 k123 x1 x3 x4 x5 x6 h) 166 [(0, .ref (w.2.1 (147))), (1, .int x1), (3, .int x3), (4, .int x4), (5, .int x5), (6, .int x6)] [] h := by
  unfold f_X8_fell_166
  refine g_iload_n (pc := 166) C 2 rfl dX8_fell_166 rfl ?_
  refine g_lv (lv' := [(0, .ref (w.2.1 (147))), (1, .int x1), (4, .int x4), (5, .int x5), (6, .int x6)]) [0, 1, 3, 4, 5] rfl ?_
  exact j_X8_fell_167 C hk123 x1 x4 x5 x6 x3 h
def f_X8_fell_123   : Nat → Int32 → Int32 → Int32 → Int32 → TT → Option (Int32 × TT)
  | 0, _, _, _, _, _ => none
  | n + 1, x1, x3, x4, x5, h => (if (100 : Int32) ≤ x5 then (if x3 = (-9 : Int32) then some ((-9 : Int32), h) else (f_X8_tellsBy h x4 x3).bind fun q17 => some (q17.1, q17.2)) else (f_X8_slips h x5).bind fun q18 => (if q18.1 = 0 then f_X8_fell_183 (f_X8_fell_123 n) x1 x3 x4 x5 q18.2 else (f_X8_builds q18.2).bind fun q20 => (f_X8_isAs q20.2 x1).bind fun r21 => (if r21 = 0 then f_X8_fell_166 (f_X8_fell_123 n) x1 x3 x4 x5 r21 q20.2 else (if x4 = 0 then f_X8_fell_167 (f_X8_fell_123 n) x1 x4 x5 r21 x5 q20.2 else f_X8_fell_166 (f_X8_fell_123 n) x1 x3 x4 x5 r21 q20.2))))
set_option maxRecDepth 20000 in
theorem j_X8_fell_123 {p : Program} {l : Launch} {e : Env} {R : Room} {s : State} {m : MethodId} {args : Array Value} {below : List Frame} {meth : Method} {c : Code} {w : WK} (C : CX p R s m args meth c w RX8 cX8_fell 7 (some .int) 11 241)     : ∀ (n : Nat) (x1 : Int32) (x3 : Int32) (x4 : Int32) (x5 : Int32) (h : TT), GO p l e R s m args below meth c w 7 fIT (f_X8_fell_123 n x1 x3 x4 x5 h) 123 [(0, .ref (w.2.1 (147))), (1, .int x1), (3, .int x3), (4, .int x4), (5, .int x5)] [] h := by
  intro n
  induction n with
  | zero =>
    intro x1 x3 x4 x5 h
    exact g_none
  | succ n ih =>
    intro x1 x3 x4 x5 h
    rw [f_X8_fell_123]
    refine g_iload (pc := 123) C 4 rfl dX8_fell_123 ?_
    refine g_bipush (pc := 125) (v := 100) C dX8_fell_125 kb_100 ?_
    refine g_icmp_ge (pc := 127) (tgt := 189) C dX8_fell_127 (by decide) (fun hc15 => ?_) (fun hc15 => ?_)
    · refine g_iload_n (pc := 189) C 2 rfl dX8_fell_189 rfl ?_
      refine g_bipush (pc := 190) (v := -9) C dX8_fell_190 kb_m9 ?_
      refine g_icmp_ne (pc := 192) (tgt := 200) C dX8_fell_192 (by decide) (fun hc16 => ?_) (fun hc16 => ?_)
      · refine g_bipush (pc := 195) (v := -9) C dX8_fell_195 kb_m9 ?_
        refine g_goto (pc := 197) (tgt := 207) C dX8_fell_197 (by decide) ?_
        exact g_iretT C dX8_fell_207
      · refine g_aload_n (pc := 200) C 0 rfl dX8_fell_200 rfl ?_
        refine g_iload (pc := 201) C 3 rfl dX8_fell_201 ?_
        refine g_iload_n (pc := 203) C 2 rfl dX8_fell_203 rfl ?_
        refine g_callIT (pc := 204) (rest := []) (g_runV C mv_RX8_93 (fun x1 hx1 => m_X8_tellsBy hx1) so_RX8 rfl (by decide) rfl rfl (Nat.le_of_ble_eq_true rfl) dX8_fell_204) (fun q17 => ?_)
        exact g_iretT C dX8_fell_207
    · refine g_aload_n (pc := 130) C 0 rfl dX8_fell_130 rfl ?_
      refine g_iload (pc := 131) C 4 rfl dX8_fell_131 ?_
      refine g_callIT (pc := 133) (rest := []) (g_runV C mv_RX8_263 (fun x1 hx1 => m_X8_slips hx1) so_RX8 rfl (by decide) rfl rfl (Nat.le_of_ble_eq_true rfl) dX8_fell_133) (fun q18 => ?_)
      refine g_if_eq (pc := 136) (tgt := 183) C dX8_fell_136 (by decide) (fun hc19 => ?_) (fun hc19 => ?_)
      · exact j_X8_fell_183 C ih x1 x3 x4 x5 q18.2
      · refine g_aload_n (pc := 139) C 0 rfl dX8_fell_139 rfl ?_
        refine g_callIT (pc := 140) (rest := []) (g_runV C mv_RX8_260 (fun x1 hx1 => m_X8_builds hx1) so_RX8 rfl (by decide) rfl rfl (Nat.le_of_ble_eq_true rfl) dX8_fell_140) (fun q20 => ?_)
        refine g_pop (pc := 143) C dX8_fell_143 rfl ?_
        refine g_aload_n (pc := 144) C 0 rfl dX8_fell_144 rfl ?_
        refine g_iload_n (pc := 145) C 1 rfl dX8_fell_145 rfl ?_
        refine g_callI (pc := 146) (rest := []) (g_runV C mv_RX8_266 (fun x1 hx1 => m_X8_isAs hx1) so_RX8 rfl (by decide) rfl rfl (Nat.le_of_ble_eq_true rfl) dX8_fell_146) (fun r21 => ?_)
        refine g_istore (pc := 149) C dX8_fell_149 (by decide) (lv' := [(6, .int r21), (0, .ref (w.2.1 (147))), (1, .int x1), (3, .int x3), (4, .int x4), (5, .int x5)]) rfl ?_
        refine g_iload (pc := 151) C 0 rfl dX8_fell_151 ?_
        refine g_if_eq (pc := 153) (tgt := 166) C dX8_fell_153 (by decide) (fun hc22 => ?_) (fun hc22 => ?_)
        · refine g_lv (lv' := [(0, .ref (w.2.1 (147))), (1, .int x1), (3, .int x3), (4, .int x4), (5, .int x5), (6, .int r21)]) [1, 2, 3, 4, 5, 0] rfl ?_
          exact j_X8_fell_166 C ih x1 x3 x4 x5 r21 q20.2
        · refine g_iload (pc := 156) C 4 rfl dX8_fell_156 ?_
          refine g_if_ne (pc := 158) (tgt := 166) C dX8_fell_158 (by decide) (fun hc25 => ?_) (fun hc25 => ?_)
          · refine g_iload (pc := 161) C 5 rfl dX8_fell_161 ?_
            refine g_goto (pc := 163) (tgt := 167) C dX8_fell_163 (by decide) ?_
            refine g_lv (lv' := [(0, .ref (w.2.1 (147))), (1, .int x1), (4, .int x4), (5, .int x5), (6, .int r21)]) [1, 2, 4, 5, 0] rfl ?_
            exact j_X8_fell_167 C ih x1 x4 x5 r21 x5 q20.2
          · refine g_lv (lv' := [(0, .ref (w.2.1 (147))), (1, .int x1), (3, .int x3), (4, .int x4), (5, .int x5), (6, .int r21)]) [1, 2, 3, 4, 5, 0] rfl ?_
            exact j_X8_fell_166 C ih x1 x3 x4 x5 r21 q20.2
def f_X8_fell_97  (k64 : Int32 → Int32 → Int32 → TT → Option (Int32 × TT)) (x1 : Int32) (x3 : Int32) (xs0 : Int32) (h : TT) : Option (Int32 × TT) := k64 x1 xs0 (x3 + (1 : Int32)) h
set_option maxRecDepth 20000 in
theorem j_X8_fell_97 {p : Program} {l : Launch} {e : Env} {R : Room} {s : State} {m : MethodId} {args : Array Value} {below : List Frame} {meth : Method} {c : Code} {w : WK} (C : CX p R s m args meth c w RX8 cX8_fell 7 (some .int) 11 241)    {k64 : Int32 → Int32 → Int32 → TT → Option (Int32 × TT)} (hk64 : ∀ (x1 : Int32) (x2 : Int32) (x3 : Int32)  (h : TT), GO p l e R s m args below meth c w 7 fIT (k64 x1 x2 x3 h) 64 [(0, .ref (w.2.1 (147))), (1, .int x1), (2, .int x2), (3, .int x3)] [] h) (x1 : Int32) (x3 : Int32) (xs0 : Int32)  (h : TT) : GO p l e R s m args below meth c w 7 fIT (f_X8_fell_97 k64 x1 x3 xs0 h) 97 [(0, .ref (w.2.1 (147))), (1, .int x1), (3, .int x3)] [.int xs0] h := by
  unfold f_X8_fell_97
  refine g_istore_n (pc := 97) C dX8_fell_97 rfl (by decide) (lv' := [(2, .int xs0), (0, .ref (w.2.1 (147))), (1, .int x1), (3, .int x3)]) rfl ?_
  refine g_iinc (pc := 98) C 3 rfl dX8_fell_98 (ki_1 _) (by decide) (lv' := [(3, .int (x3 + (1 : Int32))), (2, .int xs0), (0, .ref (w.2.1 (147))), (1, .int x1)]) rfl ?_
  refine g_goto (pc := 101) (tgt := 64) C dX8_fell_101 (by decide) ?_
  refine g_lv (lv' := [(0, .ref (w.2.1 (147))), (1, .int x1), (2, .int xs0), (3, .int (x3 + (1 : Int32)))]) [2, 3, 1, 0] rfl ?_
  exact hk64 x1 xs0 (x3 + (1 : Int32)) h
def f_X8_fell_96  (k64 : Int32 → Int32 → Int32 → TT → Option (Int32 × TT)) (x1 : Int32) (x3 : Int32) (h : TT) : Option (Int32 × TT) := f_X8_fell_97 k64 x1 x3 (0 : Int32) h
set_option maxRecDepth 20000 in
theorem j_X8_fell_96 {p : Program} {l : Launch} {e : Env} {R : Room} {s : State} {m : MethodId} {args : Array Value} {below : List Frame} {meth : Method} {c : Code} {w : WK} (C : CX p R s m args meth c w RX8 cX8_fell 7 (some .int) 11 241)    {k64 : Int32 → Int32 → Int32 → TT → Option (Int32 × TT)} (hk64 : ∀ (x1 : Int32) (x2 : Int32) (x3 : Int32)  (h : TT), GO p l e R s m args below meth c w 7 fIT (k64 x1 x2 x3 h) 64 [(0, .ref (w.2.1 (147))), (1, .int x1), (2, .int x2), (3, .int x3)] [] h) (x1 : Int32) (x3 : Int32)  (h : TT) : GO p l e R s m args below meth c w 7 fIT (f_X8_fell_96 k64 x1 x3 h) 96 [(0, .ref (w.2.1 (147))), (1, .int x1), (3, .int x3)] [] h := by
  unfold f_X8_fell_96
  refine g_iconst (pc := 96) (v := 0) C dX8_fell_96 kc_0 ?_
  exact j_X8_fell_97 C hk64 x1 x3 (0 : Int32) h
def f_X8_fell_64   : Nat → Int32 → Int32 → Int32 → TT → Option (Int32 × TT)
  | 0, _, _, _, _ => none
  | n + 1, x1, x2, x3, h => if inb x1 6 = true then (if (h.1 149 x1.toNatClampNeg) ≤ x3 then (if x2 = 0 then (f_X8_meets h (3 : Int32)).bind fun q14 => some (q14.1, q14.2) else f_X8_fell_123 KF x1 (-9 : Int32) (0 : Int32) (0 : Int32) h) else (if x2 = 0 then f_X8_fell_96 (f_X8_fell_64 n) x1 x3 h else (f_X8_rowAt h x1 x3).bind fun r27 => (f_X8_in h r27 (0 : Int32) (1 : Int32)).bind fun r28 => (if r28 = 0 then f_X8_fell_96 (f_X8_fell_64 n) x1 x3 h else f_X8_fell_97 (f_X8_fell_64 n) x1 x3 (1 : Int32) h))) else none
set_option maxRecDepth 20000 in
theorem j_X8_fell_64 {p : Program} {l : Launch} {e : Env} {R : Room} {s : State} {m : MethodId} {args : Array Value} {below : List Frame} {meth : Method} {c : Code} {w : WK} (C : CX p R s m args meth c w RX8 cX8_fell 7 (some .int) 11 241)     : ∀ (n : Nat) (x1 : Int32) (x2 : Int32) (x3 : Int32) (h : TT), GO p l e R s m args below meth c w 7 fIT (f_X8_fell_64 n x1 x2 x3 h) 64 [(0, .ref (w.2.1 (147))), (1, .int x1), (2, .int x2), (3, .int x3)] [] h := by
  intro n
  induction n with
  | zero =>
    intro x1 x2 x3 h
    exact g_none
  | succ n ih =>
    intro x1 x2 x3 h
    rw [f_X8_fell_64]
    refine g_iload_n (pc := 64) C 3 rfl dX8_fell_64 rfl ?_
    refine g_aload_n (pc := 65) C 0 rfl dX8_fell_65 rfl ?_
    refine g_get (pc := 66) C so_RX8 5 fl_RX8_13 (v := .ref (w.2.1 (149))) rfl dX8_fell_66 ?_
    refine g_iload_n (pc := 69) C 1 rfl dX8_fell_69 rfl ?_
    refine g_iald (pc := 70) C si_149 dX8_fell_70 (fun hb11 => ?_)
    refine g_icmp_ge (pc := 71) (tgt := 104) C dX8_fell_71 (by decide) (fun hc12 => ?_) (fun hc12 => ?_)
    · refine g_iload_n (pc := 104) C 2 rfl dX8_fell_104 rfl ?_
      refine g_if_ne (pc := 105) (tgt := 114) C dX8_fell_105 (by decide) (fun hc13 => ?_) (fun hc13 => ?_)
      · refine g_aload_n (pc := 108) C 0 rfl dX8_fell_108 rfl ?_
        refine g_iconst (pc := 109) (v := 3) C dX8_fell_109 kc_3 ?_
        refine g_callIT (pc := 110) (rest := []) (g_runV C mv_RX8_85 (fun x1 hx1 => m_X8_meets hx1) so_RX8 rfl (by decide) rfl rfl (Nat.le_of_ble_eq_true rfl) dX8_fell_110) (fun q14 => ?_)
        exact g_iretT C dX8_fell_113
      · refine g_bipush (pc := 114) (v := -9) C dX8_fell_114 kb_m9 ?_
        refine g_istore_n (pc := 116) C dX8_fell_116 rfl (by decide) (lv' := [(3, .int (-9 : Int32)), (0, .ref (w.2.1 (147))), (1, .int x1), (2, .int x2)]) rfl ?_
        refine g_iconst (pc := 117) (v := 0) C dX8_fell_117 kc_0 ?_
        refine g_istore (pc := 118) C dX8_fell_118 (by decide) (lv' := [(4, .int (0 : Int32)), (3, .int (-9 : Int32)), (0, .ref (w.2.1 (147))), (1, .int x1), (2, .int x2)]) rfl ?_
        refine g_iconst (pc := 120) (v := 0) C dX8_fell_120 kc_0 ?_
        refine g_istore (pc := 121) C dX8_fell_121 (by decide) (lv' := [(5, .int (0 : Int32)), (4, .int (0 : Int32)), (3, .int (-9 : Int32)), (0, .ref (w.2.1 (147))), (1, .int x1), (2, .int x2)]) rfl ?_
        refine g_lv (lv' := [(0, .ref (w.2.1 (147))), (1, .int x1), (3, .int (-9 : Int32)), (4, .int (0 : Int32)), (5, .int (0 : Int32))]) [3, 4, 2, 1, 0] rfl ?_
        exact j_X8_fell_123 C KF x1 (-9 : Int32) (0 : Int32) (0 : Int32) h
    · refine g_iload_n (pc := 74) C 2 rfl dX8_fell_74 rfl ?_
      refine g_if_eq (pc := 75) (tgt := 96) C dX8_fell_75 (by decide) (fun hc26 => ?_) (fun hc26 => ?_)
      · refine g_lv (lv' := [(0, .ref (w.2.1 (147))), (1, .int x1), (3, .int x3)]) [0, 1, 3] rfl ?_
        exact j_X8_fell_96 C ih x1 x3 h
      · refine g_aload_n (pc := 78) C 0 rfl dX8_fell_78 rfl ?_
        refine g_iload_n (pc := 79) C 1 rfl dX8_fell_79 rfl ?_
        refine g_iload_n (pc := 80) C 3 rfl dX8_fell_80 rfl ?_
        refine g_callI (pc := 81) (rest := []) (g_runV C mv_RX8_89 (fun x1 hx1 => m_X8_rowAt hx1) so_RX8 rfl (by decide) rfl rfl (Nat.le_of_ble_eq_true rfl) dX8_fell_81) (fun r27 => ?_)
        refine g_iconst (pc := 84) (v := 0) C dX8_fell_84 kc_0 ?_
        refine g_iconst (pc := 85) (v := 1) C dX8_fell_85 kc_1 ?_
        refine g_callI (pc := 86) (rest := []) (g_runS C ms_RX8_71 (fun x1 hx1 => m_X8_in hx1) (by decide) rfl rfl (Nat.le_of_ble_eq_true rfl) dX8_fell_86) (fun r28 => ?_)
        refine g_if_eq (pc := 89) (tgt := 96) C dX8_fell_89 (by decide) (fun hc29 => ?_) (fun hc29 => ?_)
        · refine g_lv (lv' := [(0, .ref (w.2.1 (147))), (1, .int x1), (3, .int x3)]) [0, 1, 3] rfl ?_
          exact j_X8_fell_96 C ih x1 x3 h
        · refine g_iconst (pc := 92) (v := 1) C dX8_fell_92 kc_1 ?_
          refine g_goto (pc := 93) (tgt := 97) C dX8_fell_93 (by decide) ?_
          refine g_lv (lv' := [(0, .ref (w.2.1 (147))), (1, .int x1), (3, .int x3)]) [0, 1, 3] rfl ?_
          exact j_X8_fell_97 C ih x1 x3 (1 : Int32) h
def f_X8_fell (h : TT) (x1 : Int32) : Option (Int32 × TT) := (f_X8_isRow h x1).bind fun r1 => (if r1 = 0 then some ((-1 : Int32), h) else if inb (0 : Int32) 4 = true then (if (h.1 160 (0 : Int32).toNatClampNeg) = 0 then some ((-4 : Int32), h) else if inb x1 6 = true then (if 0 ≤ (h.1 149 x1.toNatClampNeg) then (f_X8_look h (0 : Int32)).bind fun h7 => if inb x1 6 = true then (f_X8_all h7).bind fun r9 => (if (h7.1 149 x1.toNatClampNeg) = r9 then f_X8_fell_64 KF x1 (1 : Int32) (0 : Int32) h7 else (f_X8_meets h7 (5 : Int32)).bind fun q30 => some (q30.1, q30.2)) else none else (f_X8_meets h (1 : Int32)).bind fun q31 => some (q31.1, q31.2)) else none) else none)
set_option maxRecDepth 20000 in
theorem m_X8_fell {l : Launch} {w : WK} {h : TT} {x1 : Int32} {x : (Int32 × TT)} (hx : f_X8_fell h x1 = some x)  : Met l yX8_fell (Cond.code yX8_fell cX8_fell 7 (some .int) :: wsG) { frames := 11, cells := 0, slots := 0, locals := 241 } (PG w [.ref (w.2.1 (147)), .int x1] h) (QG w (fIT x)) 0 0 (AA w) := by
  refine m_entry (own := RX8) (f := fIT) hx (by decide) rfl (Nat.le_of_ble_eq_true rfl) (fun p e s m args below meth c C => ?_)
  show GO p l e _ s m args below meth c w 7 fIT (f_X8_fell h x1) 0 [(0, .ref (w.2.1 (147))), (1, .int x1)] [] h
  unfold f_X8_fell
  refine g_iload_n (pc := 0) C 1 rfl dX8_fell_0 rfl ?_
  refine g_callI (pc := 1) (rest := []) (g_runS C ms_RX8_81 (fun x1 hx1 => m_X8_isRow hx1) (by decide) rfl rfl (Nat.le_of_ble_eq_true rfl) dX8_fell_1) (fun r1 => ?_)
  refine g_if_ne (pc := 4) (tgt := 9) C dX8_fell_4 (by decide) (fun hc2 => ?_) (fun hc2 => ?_)
  · refine g_iconst (pc := 7) (v := -1) C dX8_fell_7 kc_m1 ?_
    exact g_iretT C dX8_fell_8
  · refine g_aload_n (pc := 9) C 0 rfl dX8_fell_9 rfl ?_
    refine g_get (pc := 10) C so_RX8 20 fl_RX8_48 (v := .ref (w.2.1 (160))) rfl dX8_fell_10 ?_
    refine g_iconst (pc := 13) (v := 0) C dX8_fell_13 kc_0 ?_
    refine g_zald (pc := 14) C sz_160 dX8_fell_14 (fun hb3 => ?_)
    refine g_if_ne (pc := 15) (tgt := 21) C dX8_fell_15 (by decide) (fun hc4 => ?_) (fun hc4 => ?_)
    · refine g_bipush (pc := 18) (v := -4) C dX8_fell_18 kb_m4 ?_
      exact g_iretT C dX8_fell_20
    · refine g_aload_n (pc := 21) C 0 rfl dX8_fell_21 rfl ?_
      refine g_get (pc := 22) C so_RX8 5 fl_RX8_13 (v := .ref (w.2.1 (149))) rfl dX8_fell_22 ?_
      refine g_iload_n (pc := 25) C 1 rfl dX8_fell_25 rfl ?_
      refine g_iald (pc := 26) C si_149 dX8_fell_26 (fun hb5 => ?_)
      refine g_if_ge (pc := 27) (tgt := 36) C dX8_fell_27 (by decide) (fun hc6 => ?_) (fun hc6 => ?_)
      · refine g_aload_n (pc := 36) C 0 rfl dX8_fell_36 rfl ?_
        refine g_iconst (pc := 37) (v := 0) C dX8_fell_37 kc_0 ?_
        refine g_callV (pc := 38) (rest := []) (g_runV C mv_RX8_167 (fun x1 hx1 => m_X8_look hx1) so_RX8 rfl (by decide) rfl rfl (Nat.le_of_ble_eq_true rfl) dX8_fell_38) (fun h7 => ?_)
        refine g_aload_n (pc := 41) C 0 rfl dX8_fell_41 rfl ?_
        refine g_get (pc := 42) C so_RX8 5 fl_RX8_13 (v := .ref (w.2.1 (149))) rfl dX8_fell_42 ?_
        refine g_iload_n (pc := 45) C 1 rfl dX8_fell_45 rfl ?_
        refine g_iald (pc := 46) C si_149 dX8_fell_46 (fun hb8 => ?_)
        refine g_aload_n (pc := 47) C 0 rfl dX8_fell_47 rfl ?_
        refine g_callI (pc := 48) (rest := [.int (h7.1 149 x1.toNatClampNeg)]) (g_runV C mv_RX8_178 (fun x1 hx1 => m_X8_all hx1) so_RX8 rfl (by decide) rfl rfl (Nat.le_of_ble_eq_true rfl) dX8_fell_48) (fun r9 => ?_)
        refine g_icmp_eq (pc := 51) (tgt := 60) C dX8_fell_51 (by decide) (fun hc10 => ?_) (fun hc10 => ?_)
        · refine g_iconst (pc := 60) (v := 1) C dX8_fell_60 kc_1 ?_
          refine g_istore_n (pc := 61) C dX8_fell_61 rfl (by decide) (lv' := [(2, .int (1 : Int32)), (0, .ref (w.2.1 (147))), (1, .int x1)]) rfl ?_
          refine g_iconst (pc := 62) (v := 0) C dX8_fell_62 kc_0 ?_
          refine g_istore_n (pc := 63) C dX8_fell_63 rfl (by decide) (lv' := [(3, .int (0 : Int32)), (2, .int (1 : Int32)), (0, .ref (w.2.1 (147))), (1, .int x1)]) rfl ?_
          refine g_lv (lv' := [(0, .ref (w.2.1 (147))), (1, .int x1), (2, .int (1 : Int32)), (3, .int (0 : Int32))]) [2, 3, 1, 0] rfl ?_
          exact j_X8_fell_64 C KF x1 (1 : Int32) (0 : Int32) h7
        · refine g_aload_n (pc := 54) C 0 rfl dX8_fell_54 rfl ?_
          refine g_iconst (pc := 55) (v := 5) C dX8_fell_55 kc_5 ?_
          refine g_callIT (pc := 56) (rest := []) (g_runV C mv_RX8_85 (fun x1 hx1 => m_X8_meets hx1) so_RX8 rfl (by decide) rfl rfl (Nat.le_of_ble_eq_true rfl) dX8_fell_56) (fun q30 => ?_)
          exact g_iretT C dX8_fell_59
      · refine g_aload_n (pc := 30) C 0 rfl dX8_fell_30 rfl ?_
        refine g_iconst (pc := 31) (v := 1) C dX8_fell_31 kc_1 ?_
        refine g_callIT (pc := 32) (rest := []) (g_runV C mv_RX8_85 (fun x1 hx1 => m_X8_meets hx1) so_RX8 rfl (by decide) rfl rfl (Nat.le_of_ble_eq_true rfl) dX8_fell_32) (fun q31 => ?_)
        exact g_iretT C dX8_fell_35
/-- SnowHouseModel.odds()I -/
def f_X8_odds_50  (k18 : Int32 → Int32 → Int32 → TT → Option (Int32 × TT)) (x1 : Int32) (x2 : Int32) (x3 : Int32) (h : TT) : Option (Int32 × TT) := k18 x1 x2 (x3 + (1 : Int32)) h
set_option maxRecDepth 20000 in
theorem j_X8_odds_50 {p : Program} {l : Launch} {e : Env} {R : Room} {s : State} {m : MethodId} {args : Array Value} {below : List Frame} {meth : Method} {c : Code} {w : WK} (C : CX p R s m args meth c w RX8 cX8_odds 4 (some .int) 11 241)    {k18 : Int32 → Int32 → Int32 → TT → Option (Int32 × TT)} (hk18 : ∀ (x1 : Int32) (x2 : Int32) (x3 : Int32)  (h : TT), GO p l e R s m args below meth c w 4 fIT (k18 x1 x2 x3 h) 18 [(0, .ref (w.2.1 (147))), (1, .int x1), (2, .int x2), (3, .int x3)] [] h) (x1 : Int32) (x2 : Int32) (x3 : Int32)  (h : TT) : GO p l e R s m args below meth c w 4 fIT (f_X8_odds_50 k18 x1 x2 x3 h) 50 [(0, .ref (w.2.1 (147))), (1, .int x1), (2, .int x2), (3, .int x3)] [] h := by
  unfold f_X8_odds_50
  refine g_iinc (pc := 50) C 3 rfl dX8_odds_50 (ki_1 _) (by decide) (lv' := [(3, .int (x3 + (1 : Int32))), (0, .ref (w.2.1 (147))), (1, .int x1), (2, .int x2)]) rfl ?_
  refine g_goto (pc := 53) (tgt := 18) C dX8_odds_53 (by decide) ?_
  refine g_lv (lv' := [(0, .ref (w.2.1 (147))), (1, .int x1), (2, .int x2), (3, .int (x3 + (1 : Int32)))]) [1, 2, 3, 0] rfl ?_
  exact hk18 x1 x2 (x3 + (1 : Int32)) h
def f_X8_odds_48  (k18 : Int32 → Int32 → Int32 → TT → Option (Int32 × TT)) (x1 : Int32) (x3 : Int32) (xs0 : Int32) (xs1 : Int32) (h : TT) : Option (Int32 × TT) := nm (xs1 + xs0) fun y9 => f_X8_odds_50 k18 x1 y9 x3 h
set_option maxRecDepth 20000 in
theorem j_X8_odds_48 {p : Program} {l : Launch} {e : Env} {R : Room} {s : State} {m : MethodId} {args : Array Value} {below : List Frame} {meth : Method} {c : Code} {w : WK} (C : CX p R s m args meth c w RX8 cX8_odds 4 (some .int) 11 241)    {k18 : Int32 → Int32 → Int32 → TT → Option (Int32 × TT)} (hk18 : ∀ (x1 : Int32) (x2 : Int32) (x3 : Int32)  (h : TT), GO p l e R s m args below meth c w 4 fIT (k18 x1 x2 x3 h) 18 [(0, .ref (w.2.1 (147))), (1, .int x1), (2, .int x2), (3, .int x3)] [] h) (x1 : Int32) (x3 : Int32) (xs0 : Int32) (xs1 : Int32)  (h : TT) : GO p l e R s m args below meth c w 4 fIT (f_X8_odds_48 k18 x1 x3 xs0 xs1 h) 48 [(0, .ref (w.2.1 (147))), (1, .int x1), (3, .int x3)] [.int xs0, .int xs1] h := by
  unfold f_X8_odds_48
  refine g_iadd (pc := 48) C dX8_odds_48 ?_
  refine g_nmi (fun y9 => ?_)
  refine g_istore_n (pc := 49) C dX8_odds_49 rfl (by decide) (lv' := [(2, .int y9), (0, .ref (w.2.1 (147))), (1, .int x1), (3, .int x3)]) rfl ?_
  refine g_lv (lv' := [(0, .ref (w.2.1 (147))), (1, .int x1), (2, .int y9), (3, .int x3)]) [1, 2, 0, 3] rfl ?_
  exact j_X8_odds_50 C hk18 x1 y9 x3 h
def f_X8_odds_18   : Nat → Int32 → Int32 → Int32 → TT → Option (Int32 × TT)
  | 0, _, _, _, _ => none
  | n + 1, x1, x2, x3, h => (if (100 : Int32) ≤ x3 then (f_X8_fraction h x2.toInt64 x1.toInt64 x1).bind fun q4 => some (q4.1, q4.2) else (f_X8_slips h x3).bind fun q5 => (if q5.1 = 0 then f_X8_odds_50 (f_X8_odds_18 n) x1 x2 x3 q5.2 else (f_X8_builds q5.2).bind fun q7 => (if q7.1 = 0 then f_X8_odds_48 (f_X8_odds_18 n) (x1 + (1 : Int32)) x3 (1 : Int32) x2 q7.2 else f_X8_odds_48 (f_X8_odds_18 n) (x1 + (1 : Int32)) x3 (0 : Int32) x2 q7.2)))
set_option maxRecDepth 20000 in
theorem j_X8_odds_18 {p : Program} {l : Launch} {e : Env} {R : Room} {s : State} {m : MethodId} {args : Array Value} {below : List Frame} {meth : Method} {c : Code} {w : WK} (C : CX p R s m args meth c w RX8 cX8_odds 4 (some .int) 11 241)     : ∀ (n : Nat) (x1 : Int32) (x2 : Int32) (x3 : Int32) (h : TT), GO p l e R s m args below meth c w 4 fIT (f_X8_odds_18 n x1 x2 x3 h) 18 [(0, .ref (w.2.1 (147))), (1, .int x1), (2, .int x2), (3, .int x3)] [] h := by
  intro n
  induction n with
  | zero =>
    intro x1 x2 x3 h
    exact g_none
  | succ n ih =>
    intro x1 x2 x3 h
    rw [f_X8_odds_18]
    refine g_iload_n (pc := 18) C 3 rfl dX8_odds_18 rfl ?_
    refine g_bipush (pc := 19) (v := 100) C dX8_odds_19 kb_100 ?_
    refine g_icmp_ge (pc := 21) (tgt := 56) C dX8_odds_21 (by decide) (fun hc3 => ?_) (fun hc3 => ?_)
    · refine g_aload_n (pc := 56) C 0 rfl dX8_odds_56 rfl ?_
      refine g_iload_n (pc := 57) C 2 rfl dX8_odds_57 rfl ?_
      refine g_i2l (pc := 58) C dX8_odds_58 ?_
      refine g_iload_n (pc := 59) C 1 rfl dX8_odds_59 rfl ?_
      refine g_i2l (pc := 60) C dX8_odds_60 ?_
      refine g_iload_n (pc := 61) C 1 rfl dX8_odds_61 rfl ?_
      refine g_callIT (pc := 62) (rest := []) (g_runV C mv_RX8_269 (fun x1 hx1 => m_X8_fraction hx1) so_RX8 rfl (by decide) rfl rfl (Nat.le_of_ble_eq_true rfl) dX8_odds_62) (fun q4 => ?_)
      exact g_iretT C dX8_odds_65
    · refine g_aload_n (pc := 24) C 0 rfl dX8_odds_24 rfl ?_
      refine g_iload_n (pc := 25) C 3 rfl dX8_odds_25 rfl ?_
      refine g_callIT (pc := 26) (rest := []) (g_runV C mv_RX8_263 (fun x1 hx1 => m_X8_slips hx1) so_RX8 rfl (by decide) rfl rfl (Nat.le_of_ble_eq_true rfl) dX8_odds_26) (fun q5 => ?_)
      refine g_if_eq (pc := 29) (tgt := 50) C dX8_odds_29 (by decide) (fun hc6 => ?_) (fun hc6 => ?_)
      · exact j_X8_odds_50 C ih x1 x2 x3 q5.2
      · refine g_iinc (pc := 32) C 1 rfl dX8_odds_32 (ki_1 _) (by decide) (lv' := [(1, .int (x1 + (1 : Int32))), (0, .ref (w.2.1 (147))), (2, .int x2), (3, .int x3)]) rfl ?_
        refine g_iload_n (pc := 35) C 2 rfl dX8_odds_35 rfl ?_
        refine g_aload_n (pc := 36) C 1 rfl dX8_odds_36 rfl ?_
        refine g_callIT (pc := 37) (rest := [.int x2]) (g_runV C mv_RX8_260 (fun x1 hx1 => m_X8_builds hx1) so_RX8 rfl (by decide) rfl rfl (Nat.le_of_ble_eq_true rfl) dX8_odds_37) (fun q7 => ?_)
        refine g_if_ne (pc := 40) (tgt := 47) C dX8_odds_40 (by decide) (fun hc8 => ?_) (fun hc8 => ?_)
        · refine g_iconst (pc := 43) (v := 1) C dX8_odds_43 kc_1 ?_
          refine g_goto (pc := 44) (tgt := 48) C dX8_odds_44 (by decide) ?_
          refine g_lv (lv' := [(0, .ref (w.2.1 (147))), (1, .int (x1 + (1 : Int32))), (3, .int x3)]) [1, 0, 3] rfl ?_
          exact j_X8_odds_48 C ih (x1 + (1 : Int32)) x3 (1 : Int32) x2 q7.2
        · refine g_iconst (pc := 47) (v := 0) C dX8_odds_47 kc_0 ?_
          refine g_lv (lv' := [(0, .ref (w.2.1 (147))), (1, .int (x1 + (1 : Int32))), (3, .int x3)]) [1, 0, 3] rfl ?_
          exact j_X8_odds_48 C ih (x1 + (1 : Int32)) x3 (0 : Int32) x2 q7.2
def f_X8_odds (h : TT)  : Option (Int32 × TT) := if inb (0 : Int32) 4 = true then (if (h.1 160 (0 : Int32).toNatClampNeg) = 0 then some ((-4 : Int32), h) else f_X8_odds_18 KF (0 : Int32) (0 : Int32) (0 : Int32) h) else none
set_option maxRecDepth 20000 in
theorem m_X8_odds {l : Launch} {w : WK} {h : TT}  {x : (Int32 × TT)} (hx : f_X8_odds h  = some x)  : Met l yX8_odds (Cond.code yX8_odds cX8_odds 4 (some .int) :: wsG) { frames := 11, cells := 0, slots := 0, locals := 241 } (PG w [.ref (w.2.1 (147))] h) (QG w (fIT x)) 0 0 (AA w) := by
  refine m_entry (own := RX8) (f := fIT) hx (by decide) rfl (Nat.le_of_ble_eq_true rfl) (fun p e s m args below meth c C => ?_)
  show GO p l e _ s m args below meth c w 4 fIT (f_X8_odds h ) 0 [(0, .ref (w.2.1 (147)))] [] h
  unfold f_X8_odds
  refine g_aload_n (pc := 0) C 0 rfl dX8_odds_0 rfl ?_
  refine g_get (pc := 1) C so_RX8 20 fl_RX8_48 (v := .ref (w.2.1 (160))) rfl dX8_odds_1 ?_
  refine g_iconst (pc := 4) (v := 0) C dX8_odds_4 kc_0 ?_
  refine g_zald (pc := 5) C sz_160 dX8_odds_5 (fun hb1 => ?_)
  refine g_if_ne (pc := 6) (tgt := 12) C dX8_odds_6 (by decide) (fun hc2 => ?_) (fun hc2 => ?_)
  · refine g_bipush (pc := 9) (v := -4) C dX8_odds_9 kb_m4 ?_
    exact g_iretT C dX8_odds_11
  · refine g_iconst (pc := 12) (v := 0) C dX8_odds_12 kc_0 ?_
    refine g_istore_n (pc := 13) C dX8_odds_13 rfl (by decide) (lv' := [(1, .int (0 : Int32)), (0, .ref (w.2.1 (147)))]) rfl ?_
    refine g_iconst (pc := 14) (v := 0) C dX8_odds_14 kc_0 ?_
    refine g_istore_n (pc := 15) C dX8_odds_15 rfl (by decide) (lv' := [(2, .int (0 : Int32)), (1, .int (0 : Int32)), (0, .ref (w.2.1 (147)))]) rfl ?_
    refine g_iconst (pc := 16) (v := 0) C dX8_odds_16 kc_0 ?_
    refine g_istore_n (pc := 17) C dX8_odds_17 rfl (by decide) (lv' := [(3, .int (0 : Int32)), (2, .int (0 : Int32)), (1, .int (0 : Int32)), (0, .ref (w.2.1 (147)))]) rfl ?_
    refine g_lv (lv' := [(0, .ref (w.2.1 (147))), (1, .int (0 : Int32)), (2, .int (0 : Int32)), (3, .int (0 : Int32))]) [3, 2, 1, 0] rfl ?_
    exact j_X8_odds_18 C KF (0 : Int32) (0 : Int32) (0 : Int32) h
/-- SnowHouseModel.stands(III)Z -/
def f_X8_stands (h : TT) (x1 : Int32) (x2 : Int32) (x3 : Int32) : Option (Int32 × TT) := (f_X8_look h (4 : Int32)).bind fun h1 => (f_X8_layHouse h1 x1 x2 x3).bind fun h2 => (f_X8_builds h2).bind fun q3 => (if q3.1 = 0 then some ((1 : Int32), q3.2) else some ((0 : Int32), q3.2))
set_option maxRecDepth 20000 in
theorem m_X8_stands {l : Launch} {w : WK} {h : TT} {x1 : Int32} {x2 : Int32} {x3 : Int32} {x : (Int32 × TT)} (hx : f_X8_stands h x1 x2 x3 = some x)  : Met l yX8_stands (Cond.code yX8_stands cX8_stands 4 (some .boolean) :: wsG) { frames := 11, cells := 0, slots := 0, locals := 241 } (PG w [.ref (w.2.1 (147)), .int x1, .int x2, .int x3] h) (QG w (fIT x)) 0 0 (AA w) := by
  refine m_entry (own := RX8) (f := fIT) hx (by decide) rfl (Nat.le_of_ble_eq_true rfl) (fun p e s m args below meth c C => ?_)
  show GO p l e _ s m args below meth c w 4 fIT (f_X8_stands h x1 x2 x3) 0 [(0, .ref (w.2.1 (147))), (1, .int x1), (2, .int x2), (3, .int x3)] [] h
  unfold f_X8_stands
  refine g_aload_n (pc := 0) C 0 rfl dX8_stands_0 rfl ?_
  refine g_iconst (pc := 1) (v := 4) C dX8_stands_1 kc_4 ?_
  refine g_callV (pc := 2) (rest := []) (g_runV C mv_RX8_167 (fun x1 hx1 => m_X8_look hx1) so_RX8 rfl (by decide) rfl rfl (Nat.le_of_ble_eq_true rfl) dX8_stands_2) (fun h1 => ?_)
  refine g_aload_n (pc := 5) C 0 rfl dX8_stands_5 rfl ?_
  refine g_iload_n (pc := 6) C 1 rfl dX8_stands_6 rfl ?_
  refine g_iload_n (pc := 7) C 2 rfl dX8_stands_7 rfl ?_
  refine g_iload_n (pc := 8) C 3 rfl dX8_stands_8 rfl ?_
  refine g_callV (pc := 9) (rest := []) (g_runV C mv_RX8_171 (fun x1 hx1 => m_X8_layHouse hx1) so_RX8 rfl (by decide) rfl rfl (Nat.le_of_ble_eq_true rfl) dX8_stands_9) (fun h2 => ?_)
  refine g_aload_n (pc := 12) C 0 rfl dX8_stands_12 rfl ?_
  refine g_callIT (pc := 13) (rest := []) (g_runV C mv_RX8_260 (fun x1 hx1 => m_X8_builds hx1) so_RX8 rfl (by decide) rfl rfl (Nat.le_of_ble_eq_true rfl) dX8_stands_13) (fun q3 => ?_)
  refine g_if_ne (pc := 16) (tgt := 23) C dX8_stands_16 (by decide) (fun hc4 => ?_) (fun hc4 => ?_)
  · refine g_iconst (pc := 19) (v := 1) C dX8_stands_19 kc_1 ?_
    refine g_goto (pc := 20) (tgt := 24) C dX8_stands_20 (by decide) ?_
    exact g_zretT C dX8_stands_24 rfl
  · refine g_iconst (pc := 23) (v := 0) C dX8_stands_23 kc_0 ?_
    exact g_zretT C dX8_stands_24 rfl
/-- SnowHouseModel.isAnyPlan()Z -/
def f_X8_isAnyPlan_27 (h : TT)  (k4 : Int32 → Int32 → Option Int32) (x2 : Int32) (xs0 : Int32) : Option Int32 := k4 xs0 (x2 + (1 : Int32))
set_option maxRecDepth 20000 in
theorem j_X8_isAnyPlan_27 {p : Program} {l : Launch} {e : Env} {R : Room} {s : State} {m : MethodId} {args : Array Value} {below : List Frame} {meth : Method} {c : Code} {w : WK} (C : CX p R s m args meth c w RX8 cX8_isAnyPlan 3 (some .boolean) 0 0) (h : TT)   {k4 : Int32 → Int32 → Option Int32} (hk4 : ∀ (x1 : Int32) (x2 : Int32) , GO p l e R s m args below meth c w 3 (fI h) (k4 x1 x2) 4 [(0, .ref (w.2.1 (147))), (1, .int x1), (2, .int x2)] [] h) (x2 : Int32) (xs0 : Int32)  : GO p l e R s m args below meth c w 3 (fI h) (f_X8_isAnyPlan_27 h k4 x2 xs0) 27 [(0, .ref (w.2.1 (147))), (2, .int x2)] [.int xs0] h := by
  unfold f_X8_isAnyPlan_27
  refine g_istore_n (pc := 27) C dX8_isAnyPlan_27 rfl (by decide) (lv' := [(1, .int xs0), (0, .ref (w.2.1 (147))), (2, .int x2)]) rfl ?_
  refine g_iinc (pc := 28) C 2 rfl dX8_isAnyPlan_28 (ki_1 _) (by decide) (lv' := [(2, .int (x2 + (1 : Int32))), (1, .int xs0), (0, .ref (w.2.1 (147)))]) rfl ?_
  refine g_goto (pc := 31) (tgt := 4) C dX8_isAnyPlan_31 (by decide) ?_
  refine g_lv (lv' := [(0, .ref (w.2.1 (147))), (1, .int xs0), (2, .int (x2 + (1 : Int32)))]) [2, 1, 0] rfl ?_
  exact hk4 xs0 (x2 + (1 : Int32))
def f_X8_isAnyPlan_22 (h : TT)  (k4 : Int32 → Int32 → Option Int32) (x2 : Int32) : Option Int32 := f_X8_isAnyPlan_27 h k4 x2 (1 : Int32)
set_option maxRecDepth 20000 in
theorem j_X8_isAnyPlan_22 {p : Program} {l : Launch} {e : Env} {R : Room} {s : State} {m : MethodId} {args : Array Value} {below : List Frame} {meth : Method} {c : Code} {w : WK} (C : CX p R s m args meth c w RX8 cX8_isAnyPlan 3 (some .boolean) 0 0) (h : TT)   {k4 : Int32 → Int32 → Option Int32} (hk4 : ∀ (x1 : Int32) (x2 : Int32) , GO p l e R s m args below meth c w 3 (fI h) (k4 x1 x2) 4 [(0, .ref (w.2.1 (147))), (1, .int x1), (2, .int x2)] [] h) (x2 : Int32)  : GO p l e R s m args below meth c w 3 (fI h) (f_X8_isAnyPlan_22 h k4 x2) 22 [(0, .ref (w.2.1 (147))), (2, .int x2)] [] h := by
  unfold f_X8_isAnyPlan_22
  refine g_iconst (pc := 22) (v := 1) C dX8_isAnyPlan_22 kc_1 ?_
  refine g_goto (pc := 23) (tgt := 27) C dX8_isAnyPlan_23 (by decide) ?_
  exact j_X8_isAnyPlan_27 C h hk4 x2 (1 : Int32)
def f_X8_isAnyPlan_4 (h : TT)   : Nat → Int32 → Int32 → Option Int32
  | 0, _, _ => none
  | n + 1, x1, x2 => (if (4 : Int32) ≤ x2 then if isZ x1 = true then some x1 else none else (if x1 = 0 then if inb x2 4 = true then (if (h.1 156 x2.toNatClampNeg) = 0 then f_X8_isAnyPlan_27 h (f_X8_isAnyPlan_4 h n) x2 (0 : Int32) else f_X8_isAnyPlan_22 h (f_X8_isAnyPlan_4 h n) x2) else none else f_X8_isAnyPlan_22 h (f_X8_isAnyPlan_4 h n) x2))
set_option maxRecDepth 20000 in
theorem j_X8_isAnyPlan_4 {p : Program} {l : Launch} {e : Env} {R : Room} {s : State} {m : MethodId} {args : Array Value} {below : List Frame} {meth : Method} {c : Code} {w : WK} (C : CX p R s m args meth c w RX8 cX8_isAnyPlan 3 (some .boolean) 0 0) (h : TT)    : ∀ (n : Nat) (x1 : Int32) (x2 : Int32), GO p l e R s m args below meth c w 3 (fI h) (f_X8_isAnyPlan_4 h n x1 x2) 4 [(0, .ref (w.2.1 (147))), (1, .int x1), (2, .int x2)] [] h := by
  intro n
  induction n with
  | zero =>
    intro x1 x2
    exact g_none
  | succ n ih =>
    intro x1 x2
    rw [f_X8_isAnyPlan_4]
    refine g_iload_n (pc := 4) C 2 rfl dX8_isAnyPlan_4 rfl ?_
    refine g_iconst (pc := 5) (v := 4) C dX8_isAnyPlan_5 kc_4 ?_
    refine g_icmp_ge (pc := 6) (tgt := 34) C dX8_isAnyPlan_6 (by decide) (fun hc1 => ?_) (fun hc1 => ?_)
    · refine g_iload_n (pc := 34) C 1 rfl dX8_isAnyPlan_34 rfl ?_
      refine g_guard (fun hz2 => ?_)
      exact g_zret C dX8_isAnyPlan_35 hz2
    · refine g_iload_n (pc := 9) C 1 rfl dX8_isAnyPlan_9 rfl ?_
      refine g_if_ne (pc := 10) (tgt := 22) C dX8_isAnyPlan_10 (by decide) (fun hc3 => ?_) (fun hc3 => ?_)
      · refine g_aload_n (pc := 13) C 0 rfl dX8_isAnyPlan_13 rfl ?_
        refine g_get (pc := 14) C so_RX8 12 fl_RX8_36 (v := .ref (w.2.1 (156))) rfl dX8_isAnyPlan_14 ?_
        refine g_iload_n (pc := 17) C 2 rfl dX8_isAnyPlan_17 rfl ?_
        refine g_zald (pc := 18) C sz_156 dX8_isAnyPlan_18 (fun hb4 => ?_)
        refine g_if_eq (pc := 19) (tgt := 26) C dX8_isAnyPlan_19 (by decide) (fun hc5 => ?_) (fun hc5 => ?_)
        · refine g_iconst (pc := 26) (v := 0) C dX8_isAnyPlan_26 kc_0 ?_
          refine g_lv (lv' := [(0, .ref (w.2.1 (147))), (2, .int x2)]) [0, 2] rfl ?_
          exact j_X8_isAnyPlan_27 C h ih x2 (0 : Int32)
        · refine g_lv (lv' := [(0, .ref (w.2.1 (147))), (2, .int x2)]) [0, 2] rfl ?_
          exact j_X8_isAnyPlan_22 C h ih x2
      · refine g_lv (lv' := [(0, .ref (w.2.1 (147))), (2, .int x2)]) [0, 2] rfl ?_
        exact j_X8_isAnyPlan_22 C h ih x2
def f_X8_isAnyPlan (h : TT)  : Option Int32 := f_X8_isAnyPlan_4 h KF (0 : Int32) (0 : Int32)
set_option maxRecDepth 20000 in
theorem m_X8_isAnyPlan {l : Launch} {w : WK} {h : TT}  {x : Int32} (hx : f_X8_isAnyPlan h  = some x)  : Met l yX8_isAnyPlan (Cond.code yX8_isAnyPlan cX8_isAnyPlan 3 (some .boolean) :: wsG) { frames := 0, cells := 0, slots := 0, locals := 0 } (PG w [.ref (w.2.1 (147))] h) (QG w ((fI h) x)) 0 0 (AA w) := by
  refine m_entry (own := RX8) (f := (fI h)) hx (by decide) rfl (Nat.le_of_ble_eq_true rfl) (fun p e s m args below meth c C => ?_)
  show GO p l e _ s m args below meth c w 3 (fI h) (f_X8_isAnyPlan h ) 0 [(0, .ref (w.2.1 (147)))] [] h
  unfold f_X8_isAnyPlan
  refine g_iconst (pc := 0) (v := 0) C dX8_isAnyPlan_0 kc_0 ?_
  refine g_istore_n (pc := 1) C dX8_isAnyPlan_1 rfl (by decide) (lv' := [(1, .int (0 : Int32)), (0, .ref (w.2.1 (147)))]) rfl ?_
  refine g_iconst (pc := 2) (v := 0) C dX8_isAnyPlan_2 kc_0 ?_
  refine g_istore_n (pc := 3) C dX8_isAnyPlan_3 rfl (by decide) (lv' := [(2, .int (0 : Int32)), (1, .int (0 : Int32)), (0, .ref (w.2.1 (147)))]) rfl ?_
  refine g_lv (lv' := [(0, .ref (w.2.1 (147))), (1, .int (0 : Int32)), (2, .int (0 : Int32))]) [2, 1, 0] rfl ?_
  exact j_X8_isAnyPlan_4 C h KF (0 : Int32) (0 : Int32)
/-- SnowHouseModel.timeOf(II)I -/
def f_X8_timeOf (h : TT) (x1 : Int32) (x2 : Int32) : Option Int32 := if inb (((26 : Int32) * x1) + (1 : Int32)) 104 = true then (f_X8_planBlocks h x1).bind fun r2 => nm ((h.1 157 (((26 : Int32) * x1) + (1 : Int32)).toNatClampNeg) * r2) fun y3 => (if x2 = (2 : Int32) then some ((y3 + (1 : Int32)) / (2 : Int32)) else some y3) else none
set_option maxRecDepth 20000 in
theorem m_X8_timeOf {l : Launch} {w : WK} {h : TT} {x1 : Int32} {x2 : Int32} {x : Int32} (hx : f_X8_timeOf h x1 x2 = some x)  : Met l yX8_timeOf (Cond.code yX8_timeOf cX8_timeOf 4 (some .int) :: wsG) { frames := 1, cells := 0, slots := 0, locals := 23 } (PG w [.ref (w.2.1 (147)), .int x1, .int x2] h) (QG w ((fI h) x)) 0 0 (AA w) := by
  refine m_entry (own := RX8) (f := (fI h)) hx (by decide) rfl (Nat.le_of_ble_eq_true rfl) (fun p e s m args below meth c C => ?_)
  show GO p l e _ s m args below meth c w 4 (fI h) (f_X8_timeOf h x1 x2) 0 [(0, .ref (w.2.1 (147))), (1, .int x1), (2, .int x2)] [] h
  unfold f_X8_timeOf
  refine g_aload_n (pc := 0) C 0 rfl dX8_timeOf_0 rfl ?_
  refine g_get (pc := 1) C so_RX8 13 fl_RX8_39 (v := .ref (w.2.1 (157))) rfl dX8_timeOf_1 ?_
  refine g_bipush (pc := 4) (v := 26) C dX8_timeOf_4 kb_26 ?_
  refine g_iload_n (pc := 6) C 1 rfl dX8_timeOf_6 rfl ?_
  refine g_imul (pc := 7) C dX8_timeOf_7 ?_
  refine g_iconst (pc := 8) (v := 1) C dX8_timeOf_8 kc_1 ?_
  refine g_iadd (pc := 9) C dX8_timeOf_9 ?_
  refine g_iald (pc := 10) C si_157 dX8_timeOf_10 (fun hb1 => ?_)
  refine g_aload_n (pc := 11) C 0 rfl dX8_timeOf_11 rfl ?_
  refine g_iload_n (pc := 12) C 1 rfl dX8_timeOf_12 rfl ?_
  refine g_callI (pc := 13) (rest := [.int (h.1 157 (((26 : Int32) * x1) + (1 : Int32)).toNatClampNeg)]) (g_runV C mv_RX8_139 (fun x1 hx1 => m_X8_planBlocks hx1) so_RX8 rfl (by decide) rfl rfl (Nat.le_of_ble_eq_true rfl) dX8_timeOf_13) (fun r2 => ?_)
  refine g_imul (pc := 16) C dX8_timeOf_16 ?_
  refine g_nmi (fun y3 => ?_)
  refine g_istore_n (pc := 17) C dX8_timeOf_17 rfl (by decide) (lv' := [(3, .int y3), (0, .ref (w.2.1 (147))), (1, .int x1), (2, .int x2)]) rfl ?_
  refine g_iload_n (pc := 18) C 3 rfl dX8_timeOf_18 rfl ?_
  refine g_iconst (pc := 19) (v := 2) C dX8_timeOf_19 kc_2 ?_
  refine g_icmp_ne (pc := 20) (tgt := 31) C dX8_timeOf_20 (by decide) (fun hc4 => ?_) (fun hc4 => ?_)
  · refine g_iload_n (pc := 23) C 0 rfl dX8_timeOf_23 rfl ?_
    refine g_iconst (pc := 24) (v := 1) C dX8_timeOf_24 kc_1 ?_
    refine g_iadd (pc := 25) C dX8_timeOf_25 ?_
    refine g_iconst (pc := 26) (v := 2) C dX8_timeOf_26 kc_2 ?_
    refine g_idiv (pc := 27) C dX8_timeOf_27 (by decide) ?_
    refine g_goto (pc := 28) (tgt := 32) C dX8_timeOf_28 (by decide) ?_
    exact g_iret C dX8_timeOf_32
  · refine g_iload_n (pc := 31) C 0 rfl dX8_timeOf_31 rfl ?_
    exact g_iret C dX8_timeOf_32
/-- SnowHouseModel.storm(IIII)I -/
def f_X8_storm_56    (h : TT) : Option (Int32 × TT) := (f_X8_meets h (1 : Int32)).bind fun q11 => some (q11.1, q11.2)
set_option maxRecDepth 20000 in
theorem j_X8_storm_56 {p : Program} {l : Launch} {e : Env} {R : Room} {s : State} {m : MethodId} {args : Array Value} {below : List Frame} {meth : Method} {c : Code} {w : WK} (C : CX p R s m args meth c w RX8 cX8_storm 8 (some .int) 12 264)       (h : TT) : GO p l e R s m args below meth c w 8 fIT (f_X8_storm_56 h) 56 [(0, .ref (w.2.1 (147)))] [] h := by
  unfold f_X8_storm_56
  refine g_aload_n (pc := 56) C 0 rfl dX8_storm_56 rfl ?_
  refine g_iconst (pc := 57) (v := 1) C dX8_storm_57 kc_1 ?_
  refine g_callIT (pc := 58) (rest := []) (g_runV C mv_RX8_85 (fun x1 hx1 => m_X8_meets hx1) so_RX8 rfl (by decide) rfl rfl (Nat.le_of_ble_eq_true rfl) dX8_storm_58) (fun q11 => ?_)
  exact g_iretT C dX8_storm_61
def f_X8_storm_159  (k69 : Int32 → Int32 → Int32 → Int32 → Int32 → Int32 → TT → Option (Int32 × TT)) (x1 : Int32) (x2 : Int32) (x3 : Int32) (x4 : Int32) (x6 : Int32) (xs0 : Int32) (h : TT) : Option (Int32 × TT) := k69 x1 x2 x3 x4 xs0 (x6 + (1 : Int32)) h
set_option maxRecDepth 20000 in
theorem j_X8_storm_159 {p : Program} {l : Launch} {e : Env} {R : Room} {s : State} {m : MethodId} {args : Array Value} {below : List Frame} {meth : Method} {c : Code} {w : WK} (C : CX p R s m args meth c w RX8 cX8_storm 8 (some .int) 12 264)    {k69 : Int32 → Int32 → Int32 → Int32 → Int32 → Int32 → TT → Option (Int32 × TT)} (hk69 : ∀ (x1 : Int32) (x2 : Int32) (x3 : Int32) (x4 : Int32) (x5 : Int32) (x6 : Int32)  (h : TT), GO p l e R s m args below meth c w 8 fIT (k69 x1 x2 x3 x4 x5 x6 h) 69 [(0, .ref (w.2.1 (147))), (1, .int x1), (2, .int x2), (3, .int x3), (4, .int x4), (5, .int x5), (6, .int x6)] [] h) (x1 : Int32) (x2 : Int32) (x3 : Int32) (x4 : Int32) (x6 : Int32) (xs0 : Int32)  (h : TT) : GO p l e R s m args below meth c w 8 fIT (f_X8_storm_159 k69 x1 x2 x3 x4 x6 xs0 h) 159 [(0, .ref (w.2.1 (147))), (1, .int x1), (2, .int x2), (3, .int x3), (4, .int x4), (6, .int x6)] [.int xs0] h := by
  unfold f_X8_storm_159
  refine g_istore (pc := 159) C dX8_storm_159 (by decide) (lv' := [(5, .int xs0), (0, .ref (w.2.1 (147))), (1, .int x1), (2, .int x2), (3, .int x3), (4, .int x4), (6, .int x6)]) rfl ?_
  refine g_iinc (pc := 161) C 6 rfl dX8_storm_161 (ki_1 _) (by decide) (lv' := [(6, .int (x6 + (1 : Int32))), (5, .int xs0), (0, .ref (w.2.1 (147))), (1, .int x1), (2, .int x2), (3, .int x3), (4, .int x4)]) rfl ?_
  refine g_goto (pc := 164) (tgt := 69) C dX8_storm_164 (by decide) ?_
  refine g_lv (lv' := [(0, .ref (w.2.1 (147))), (1, .int x1), (2, .int x2), (3, .int x3), (4, .int x4), (5, .int xs0), (6, .int (x6 + (1 : Int32)))]) [2, 3, 4, 5, 6, 1, 0] rfl ?_
  exact hk69 x1 x2 x3 x4 xs0 (x6 + (1 : Int32)) h
def f_X8_storm_157  (k69 : Int32 → Int32 → Int32 → Int32 → Int32 → Int32 → TT → Option (Int32 × TT)) (x1 : Int32) (x2 : Int32) (x3 : Int32) (x4 : Int32) (x5 : Int32) (x6 : Int32) (h : TT) : Option (Int32 × TT) := f_X8_storm_159 k69 x1 x2 x3 x4 x6 x5 h
set_option maxRecDepth 20000 in
theorem j_X8_storm_157 {p : Program} {l : Launch} {e : Env} {R : Room} {s : State} {m : MethodId} {args : Array Value} {below : List Frame} {meth : Method} {c : Code} {w : WK} (C : CX p R s m args meth c w RX8 cX8_storm 8 (some .int) 12 264)    {k69 : Int32 → Int32 → Int32 → Int32 → Int32 → Int32 → TT → Option (Int32 × TT)} (hk69 : ∀ (x1 : Int32) (x2 : Int32) (x3 : Int32) (x4 : Int32) (x5 : Int32) (x6 : Int32)  (h : TT), GO p l e R s m args below meth c w 8 fIT (k69 x1 x2 x3 x4 x5 x6 h) 69 [(0, .ref (w.2.1 (147))), (1, .int x1), (2, .int x2), (3, .int x3), (4, .int x4), (5, .int x5), (6, .int x6)] [] h) (x1 : Int32) (x2 : Int32) (x3 : Int32) (x4 : Int32) (x5 : Int32) (x6 : Int32)  (h : TT) : GO p l e R s m args below meth c w 8 fIT (f_X8_storm_157 k69 x1 x2 x3 x4 x5 x6 h) 157 [(0, .ref (w.2.1 (147))), (1, .int x1), (2, .int x2), (3, .int x3), (4, .int x4), (5, .int x5), (6, .int x6)] [] h := by
  unfold f_X8_storm_157
  refine g_iload (pc := 157) C 5 rfl dX8_storm_157 ?_
  refine g_lv (lv' := [(0, .ref (w.2.1 (147))), (1, .int x1), (2, .int x2), (3, .int x3), (4, .int x4), (6, .int x6)]) [0, 1, 2, 3, 4, 6] rfl ?_
  exact j_X8_storm_159 C hk69 x1 x2 x3 x4 x6 x5 h
def f_X8_storm_152  (k69 : Int32 → Int32 → Int32 → Int32 → Int32 → Int32 → TT → Option (Int32 × TT)) (x1 : Int32) (x2 : Int32) (x3 : Int32) (x4 : Int32) (x6 : Int32) (h : TT) : Option (Int32 × TT) := f_X8_storm_159 k69 x1 x2 x3 x4 x6 x6 h
set_option maxRecDepth 20000 in
theorem j_X8_storm_152 {p : Program} {l : Launch} {e : Env} {R : Room} {s : State} {m : MethodId} {args : Array Value} {below : List Frame} {meth : Method} {c : Code} {w : WK} (C : CX p R s m args meth c w RX8 cX8_storm 8 (some .int) 12 264)    {k69 : Int32 → Int32 → Int32 → Int32 → Int32 → Int32 → TT → Option (Int32 × TT)} (hk69 : ∀ (x1 : Int32) (x2 : Int32) (x3 : Int32) (x4 : Int32) (x5 : Int32) (x6 : Int32)  (h : TT), GO p l e R s m args below meth c w 8 fIT (k69 x1 x2 x3 x4 x5 x6 h) 69 [(0, .ref (w.2.1 (147))), (1, .int x1), (2, .int x2), (3, .int x3), (4, .int x4), (5, .int x5), (6, .int x6)] [] h) (x1 : Int32) (x2 : Int32) (x3 : Int32) (x4 : Int32) (x6 : Int32)  (h : TT) : GO p l e R s m args below meth c w 8 fIT (f_X8_storm_152 k69 x1 x2 x3 x4 x6 h) 152 [(0, .ref (w.2.1 (147))), (1, .int x1), (2, .int x2), (3, .int x3), (4, .int x4), (6, .int x6)] [] h := by
  unfold f_X8_storm_152
  refine g_iload (pc := 152) C 5 rfl dX8_storm_152 ?_
  refine g_goto (pc := 154) (tgt := 159) C dX8_storm_154 (by decide) ?_
  exact j_X8_storm_159 C hk69 x1 x2 x3 x4 x6 x6 h
def f_X8_storm_123  (k69 : Int32 → Int32 → Int32 → Int32 → Int32 → Int32 → TT → Option (Int32 × TT)) (x1 : Int32) (x2 : Int32) (x3 : Int32) (x4 : Int32) (x5 : Int32) (x6 : Int32) (xs0 : Int32) (h : TT) : Option (Int32 × TT) := (if xs0 = 0 then f_X8_storm_157 k69 x1 x2 x3 x4 x5 x6 h else (if x5 = (-9 : Int32) then f_X8_storm_152 k69 x1 x2 x3 x4 x6 h else (f_X8_planBlocks h x6).bind fun r22 => (f_X8_planBlocks h x5).bind fun r23 => (if r23 ≤ r22 then f_X8_storm_157 k69 x1 x2 x3 x4 x5 x6 h else f_X8_storm_152 k69 x1 x2 x3 x4 x6 h)))
set_option maxRecDepth 20000 in
theorem j_X8_storm_123 {p : Program} {l : Launch} {e : Env} {R : Room} {s : State} {m : MethodId} {args : Array Value} {below : List Frame} {meth : Method} {c : Code} {w : WK} (C : CX p R s m args meth c w RX8 cX8_storm 8 (some .int) 12 264)    {k69 : Int32 → Int32 → Int32 → Int32 → Int32 → Int32 → TT → Option (Int32 × TT)} (hk69 : ∀ (x1 : Int32) (x2 : Int32) (x3 : Int32) (x4 : Int32) (x5 : Int32) (x6 : Int32)  (h : TT), GO p l e R s m args below meth c w 8 fIT (k69 x1 x2 x3 x4 x5 x6 h) 69 [(0, .ref (w.2.1 (147))), (1, .int x1), (2, .int x2), (3, .int x3), (4, .int x4), (5, .int x5), (6, .int x6)] [] h) (x1 : Int32) (x2 : Int32) (x3 : Int32) (x4 : Int32) (x5 : Int32) (x6 : Int32) (xs0 : Int32)  (h : TT) : GO p l e R s m args below meth c w 8 fIT (f_X8_storm_123 k69 x1 x2 x3 x4 x5 x6 xs0 h) 123 [(0, .ref (w.2.1 (147))), (1, .int x1), (2, .int x2), (3, .int x3), (4, .int x4), (5, .int x5), (6, .int x6)] [.int xs0] h := by
  unfold f_X8_storm_123
  refine g_istore (pc := 123) C dX8_storm_123 (by decide) (lv' := [(7, .int xs0), (0, .ref (w.2.1 (147))), (1, .int x1), (2, .int x2), (3, .int x3), (4, .int x4), (5, .int x5), (6, .int x6)]) rfl ?_
  refine g_iload (pc := 125) C 0 rfl dX8_storm_125 ?_
  refine g_if_eq (pc := 127) (tgt := 157) C dX8_storm_127 (by decide) (fun hc20 => ?_) (fun hc20 => ?_)
  · refine g_lv (lv' := [(0, .ref (w.2.1 (147))), (1, .int x1), (2, .int x2), (3, .int x3), (4, .int x4), (5, .int x5), (6, .int x6)]) [1, 2, 3, 4, 5, 6, 7] rfl ?_
    exact j_X8_storm_157 C hk69 x1 x2 x3 x4 x5 x6 h
  · refine g_iload (pc := 130) C 6 rfl dX8_storm_130 ?_
    refine g_bipush (pc := 132) (v := -9) C dX8_storm_132 kb_m9 ?_
    refine g_icmp_eq (pc := 134) (tgt := 152) C dX8_storm_134 (by decide) (fun hc21 => ?_) (fun hc21 => ?_)
    · refine g_lv (lv' := [(0, .ref (w.2.1 (147))), (1, .int x1), (2, .int x2), (3, .int x3), (4, .int x4), (6, .int x6)]) [1, 2, 3, 4, 5, 7] rfl ?_
      exact j_X8_storm_152 C hk69 x1 x2 x3 x4 x6 h
    · refine g_aload_n (pc := 137) C 1 rfl dX8_storm_137 rfl ?_
      refine g_iload (pc := 138) C 7 rfl dX8_storm_138 ?_
      refine g_callI (pc := 140) (rest := []) (g_runV C mv_RX8_139 (fun x1 hx1 => m_X8_planBlocks hx1) so_RX8 rfl (by decide) rfl rfl (Nat.le_of_ble_eq_true rfl) dX8_storm_140) (fun r22 => ?_)
      refine g_aload_n (pc := 143) C 1 rfl dX8_storm_143 rfl ?_
      refine g_iload (pc := 144) C 6 rfl dX8_storm_144 ?_
      refine g_callI (pc := 146) (rest := [.int r22]) (g_runV C mv_RX8_139 (fun x1 hx1 => m_X8_planBlocks hx1) so_RX8 rfl (by decide) rfl rfl (Nat.le_of_ble_eq_true rfl) dX8_storm_146) (fun r23 => ?_)
      refine g_icmp_ge (pc := 149) (tgt := 157) C dX8_storm_149 (by decide) (fun hc24 => ?_) (fun hc24 => ?_)
      · refine g_lv (lv' := [(0, .ref (w.2.1 (147))), (1, .int x1), (2, .int x2), (3, .int x3), (4, .int x4), (5, .int x5), (6, .int x6)]) [1, 2, 3, 4, 5, 6, 7] rfl ?_
        exact j_X8_storm_157 C hk69 x1 x2 x3 x4 x5 x6 h
      · refine g_lv (lv' := [(0, .ref (w.2.1 (147))), (1, .int x1), (2, .int x2), (3, .int x3), (4, .int x4), (6, .int x6)]) [1, 2, 3, 4, 5, 7] rfl ?_
        exact j_X8_storm_152 C hk69 x1 x2 x3 x4 x6 h
def f_X8_storm_122  (k69 : Int32 → Int32 → Int32 → Int32 → Int32 → Int32 → TT → Option (Int32 × TT)) (x1 : Int32) (x2 : Int32) (x3 : Int32) (x4 : Int32) (x5 : Int32) (x6 : Int32) (h : TT) : Option (Int32 × TT) := f_X8_storm_123 k69 x1 x2 x3 x4 x5 x6 (0 : Int32) h
set_option maxRecDepth 20000 in
theorem j_X8_storm_122 {p : Program} {l : Launch} {e : Env} {R : Room} {s : State} {m : MethodId} {args : Array Value} {below : List Frame} {meth : Method} {c : Code} {w : WK} (C : CX p R s m args meth c w RX8 cX8_storm 8 (some .int) 12 264)    {k69 : Int32 → Int32 → Int32 → Int32 → Int32 → Int32 → TT → Option (Int32 × TT)} (hk69 : ∀ (x1 : Int32) (x2 : Int32) (x3 : Int32) (x4 : Int32) (x5 : Int32) (x6 : Int32)  (h : TT), GO p l e R s m args below meth c w 8 fIT (k69 x1 x2 x3 x4 x5 x6 h) 69 [(0, .ref (w.2.1 (147))), (1, .int x1), (2, .int x2), (3, .int x3), (4, .int x4), (5, .int x5), (6, .int x6)] [] h) (x1 : Int32) (x2 : Int32) (x3 : Int32) (x4 : Int32) (x5 : Int32) (x6 : Int32)  (h : TT) : GO p l e R s m args below meth c w 8 fIT (f_X8_storm_122 k69 x1 x2 x3 x4 x5 x6 h) 122 [(0, .ref (w.2.1 (147))), (1, .int x1), (2, .int x2), (3, .int x3), (4, .int x4), (5, .int x5), (6, .int x6)] [] h := by
  unfold f_X8_storm_122
  refine g_iconst (pc := 122) (v := 0) C dX8_storm_122 kc_0 ?_
  exact j_X8_storm_123 C hk69 x1 x2 x3 x4 x5 x6 (0 : Int32) h
def f_X8_storm_69   : Nat → Int32 → Int32 → Int32 → Int32 → Int32 → Int32 → TT → Option (Int32 × TT)
  | 0, _, _, _, _, _, _, _ => none
  | n + 1, x1, x2, x3, x4, x5, x6, h => (if (4 : Int32) ≤ x6 then (if x5 = (-9 : Int32) then some ((-9 : Int32), h) else (f_X8_timeOf h x5 x2).bind fun r16 => (f_X8_tellsBy h r16 x5).bind fun q17 => some (q17.1, q17.2)) else if inb x6 4 = true then (if (h.1 156 x6.toNatClampNeg) = 0 then f_X8_storm_122 (f_X8_storm_69 n) x1 x2 x3 x4 x5 x6 h else (f_X8_timeOf h x6 x2).bind fun r25 => (if x3 < r25 then f_X8_storm_122 (f_X8_storm_69 n) x1 x2 x3 x4 x5 x6 h else (f_X8_planPlaces h x6).bind fun r27 => (if r27 < x4 then f_X8_storm_122 (f_X8_storm_69 n) x1 x2 x3 x4 x5 x6 h else (f_X8_stands h x1 x6 x2).bind fun q29 => (if q29.1 = 0 then f_X8_storm_122 (f_X8_storm_69 n) x1 x2 x3 x4 x5 x6 q29.2 else f_X8_storm_123 (f_X8_storm_69 n) x1 x2 x3 x4 x5 x6 (1 : Int32) q29.2)))) else none)
set_option maxRecDepth 20000 in
theorem j_X8_storm_69 {p : Program} {l : Launch} {e : Env} {R : Room} {s : State} {m : MethodId} {args : Array Value} {below : List Frame} {meth : Method} {c : Code} {w : WK} (C : CX p R s m args meth c w RX8 cX8_storm 8 (some .int) 12 264)     : ∀ (n : Nat) (x1 : Int32) (x2 : Int32) (x3 : Int32) (x4 : Int32) (x5 : Int32) (x6 : Int32) (h : TT), GO p l e R s m args below meth c w 8 fIT (f_X8_storm_69 n x1 x2 x3 x4 x5 x6 h) 69 [(0, .ref (w.2.1 (147))), (1, .int x1), (2, .int x2), (3, .int x3), (4, .int x4), (5, .int x5), (6, .int x6)] [] h := by
  intro n
  induction n with
  | zero =>
    intro x1 x2 x3 x4 x5 x6 h
    exact g_none
  | succ n ih =>
    intro x1 x2 x3 x4 x5 x6 h
    rw [f_X8_storm_69]
    refine g_iload (pc := 69) C 6 rfl dX8_storm_69 ?_
    refine g_iconst (pc := 71) (v := 4) C dX8_storm_71 kc_4 ?_
    refine g_icmp_ge (pc := 72) (tgt := 167) C dX8_storm_72 (by decide) (fun hc14 => ?_) (fun hc14 => ?_)
    · refine g_iload (pc := 167) C 5 rfl dX8_storm_167 ?_
      refine g_bipush (pc := 169) (v := -9) C dX8_storm_169 kb_m9 ?_
      refine g_icmp_ne (pc := 171) (tgt := 179) C dX8_storm_171 (by decide) (fun hc15 => ?_) (fun hc15 => ?_)
      · refine g_bipush (pc := 174) (v := -9) C dX8_storm_174 kb_m9 ?_
        refine g_goto (pc := 176) (tgt := 192) C dX8_storm_176 (by decide) ?_
        exact g_iretT C dX8_storm_192
      · refine g_aload_n (pc := 179) C 0 rfl dX8_storm_179 rfl ?_
        refine g_aload_n (pc := 180) C 0 rfl dX8_storm_180 rfl ?_
        refine g_iload (pc := 181) C 5 rfl dX8_storm_181 ?_
        refine g_iload_n (pc := 183) C 2 rfl dX8_storm_183 rfl ?_
        refine g_callI (pc := 184) (rest := [.ref (w.2.1 (147))]) (g_runV C mv_RX8_277 (fun x1 hx1 => m_X8_timeOf hx1) so_RX8 rfl (by decide) rfl rfl (Nat.le_of_ble_eq_true rfl) dX8_storm_184) (fun r16 => ?_)
        refine g_iload (pc := 187) C 5 rfl dX8_storm_187 ?_
        refine g_callIT (pc := 189) (rest := []) (g_runV C mv_RX8_93 (fun x1 hx1 => m_X8_tellsBy hx1) so_RX8 rfl (by decide) rfl rfl (Nat.le_of_ble_eq_true rfl) dX8_storm_189) (fun q17 => ?_)
        exact g_iretT C dX8_storm_192
    · refine g_aload_n (pc := 75) C 0 rfl dX8_storm_75 rfl ?_
      refine g_get (pc := 76) C so_RX8 12 fl_RX8_36 (v := .ref (w.2.1 (156))) rfl dX8_storm_76 ?_
      refine g_iload (pc := 79) C 6 rfl dX8_storm_79 ?_
      refine g_zald (pc := 81) C sz_156 dX8_storm_81 (fun hb18 => ?_)
      refine g_if_eq (pc := 82) (tgt := 122) C dX8_storm_82 (by decide) (fun hc19 => ?_) (fun hc19 => ?_)
      · exact j_X8_storm_122 C ih x1 x2 x3 x4 x5 x6 h
      · refine g_aload_n (pc := 85) C 0 rfl dX8_storm_85 rfl ?_
        refine g_iload (pc := 86) C 6 rfl dX8_storm_86 ?_
        refine g_iload_n (pc := 88) C 2 rfl dX8_storm_88 rfl ?_
        refine g_callI (pc := 89) (rest := []) (g_runV C mv_RX8_277 (fun x1 hx1 => m_X8_timeOf hx1) so_RX8 rfl (by decide) rfl rfl (Nat.le_of_ble_eq_true rfl) dX8_storm_89) (fun r25 => ?_)
        refine g_iload_n (pc := 92) C 3 rfl dX8_storm_92 rfl ?_
        refine g_icmp_gt (pc := 93) (tgt := 122) C dX8_storm_93 (by decide) (fun hc26 => ?_) (fun hc26 => ?_)
        · exact j_X8_storm_122 C ih x1 x2 x3 x4 x5 x6 h
        · refine g_aload_n (pc := 96) C 0 rfl dX8_storm_96 rfl ?_
          refine g_iload (pc := 97) C 6 rfl dX8_storm_97 ?_
          refine g_callI (pc := 99) (rest := []) (g_runV C mv_RX8_142 (fun x1 hx1 => m_X8_planPlaces hx1) so_RX8 rfl (by decide) rfl rfl (Nat.le_of_ble_eq_true rfl) dX8_storm_99) (fun r27 => ?_)
          refine g_iload (pc := 102) C 4 rfl dX8_storm_102 ?_
          refine g_icmp_lt (pc := 104) (tgt := 122) C dX8_storm_104 (by decide) (fun hc28 => ?_) (fun hc28 => ?_)
          · exact j_X8_storm_122 C ih x1 x2 x3 x4 x5 x6 h
          · refine g_aload_n (pc := 107) C 0 rfl dX8_storm_107 rfl ?_
            refine g_iload_n (pc := 108) C 1 rfl dX8_storm_108 rfl ?_
            refine g_iload (pc := 109) C 6 rfl dX8_storm_109 ?_
            refine g_iload_n (pc := 111) C 2 rfl dX8_storm_111 rfl ?_
            refine g_callIT (pc := 112) (rest := []) (g_runV C mv_RX8_280 (fun x1 hx1 => m_X8_stands hx1) so_RX8 rfl (by decide) rfl rfl (Nat.le_of_ble_eq_true rfl) dX8_storm_112) (fun q29 => ?_)
            refine g_if_eq (pc := 115) (tgt := 122) C dX8_storm_115 (by decide) (fun hc30 => ?_) (fun hc30 => ?_)
            · exact j_X8_storm_122 C ih x1 x2 x3 x4 x5 x6 q29.2
            · refine g_iconst (pc := 118) (v := 1) C dX8_storm_118 kc_1 ?_
              refine g_goto (pc := 119) (tgt := 123) C dX8_storm_119 (by decide) ?_
              exact j_X8_storm_123 C ih x1 x2 x3 x4 x5 x6 (1 : Int32) q29.2
def f_X8_storm (h : TT) (x1 : Int32) (x2 : Int32) (x3 : Int32) (x4 : Int32) : Option (Int32 × TT) := (f_X8_isPlace h x1).bind fun r1 => (if r1 = 0 then some ((-1 : Int32), h) else (f_X8_in h x2 (1 : Int32) (2 : Int32)).bind fun r3 => (if r3 = 0 then some ((-1 : Int32), h) else (f_X8_in h x3 (0 : Int32) (600 : Int32)).bind fun r5 => (if r5 = 0 then some ((-1 : Int32), h) else (f_X8_in h x4 (0 : Int32) (6 : Int32)).bind fun r7 => (if r7 = 0 then some ((-1 : Int32), h) else if inb x1 4 = true then (if (h.1 154 x1.toNatClampNeg) = 0 then f_X8_storm_56 h else (f_X8_isAnyPlan h).bind fun r12 => (if r12 = 0 then f_X8_storm_56 h else f_X8_storm_69 KF x1 x2 x3 x4 (-9 : Int32) (0 : Int32) h)) else none))))
set_option maxRecDepth 20000 in
theorem m_X8_storm {l : Launch} {w : WK} {h : TT} {x1 : Int32} {x2 : Int32} {x3 : Int32} {x4 : Int32} {x : (Int32 × TT)} (hx : f_X8_storm h x1 x2 x3 x4 = some x)  : Met l yX8_storm (Cond.code yX8_storm cX8_storm 8 (some .int) :: wsG) { frames := 12, cells := 0, slots := 0, locals := 264 } (PG w [.ref (w.2.1 (147)), .int x1, .int x2, .int x3, .int x4] h) (QG w (fIT x)) 0 0 (AA w) := by
  refine m_entry (own := RX8) (f := fIT) hx (by decide) rfl (Nat.le_of_ble_eq_true rfl) (fun p e s m args below meth c C => ?_)
  show GO p l e _ s m args below meth c w 8 fIT (f_X8_storm h x1 x2 x3 x4) 0 [(0, .ref (w.2.1 (147))), (1, .int x1), (2, .int x2), (3, .int x3), (4, .int x4)] [] h
  unfold f_X8_storm
  refine g_iload_n (pc := 0) C 1 rfl dX8_storm_0 rfl ?_
  refine g_callI (pc := 1) (rest := []) (g_runS C ms_RX8_136 (fun x1 hx1 => m_X8_isPlace hx1) (by decide) rfl rfl (Nat.le_of_ble_eq_true rfl) dX8_storm_1) (fun r1 => ?_)
  refine g_if_eq (pc := 4) (tgt := 38) C dX8_storm_4 (by decide) (fun hc2 => ?_) (fun hc2 => ?_)
  · refine g_iconst (pc := 38) (v := -1) C dX8_storm_38 kc_m1 ?_
    exact g_iretT C dX8_storm_39
  · refine g_iload_n (pc := 7) C 2 rfl dX8_storm_7 rfl ?_
    refine g_iconst (pc := 8) (v := 1) C dX8_storm_8 kc_1 ?_
    refine g_iconst (pc := 9) (v := 2) C dX8_storm_9 kc_2 ?_
    refine g_callI (pc := 10) (rest := []) (g_runS C ms_RX8_71 (fun x1 hx1 => m_X8_in hx1) (by decide) rfl rfl (Nat.le_of_ble_eq_true rfl) dX8_storm_10) (fun r3 => ?_)
    refine g_if_eq (pc := 13) (tgt := 38) C dX8_storm_13 (by decide) (fun hc4 => ?_) (fun hc4 => ?_)
    · refine g_iconst (pc := 38) (v := -1) C dX8_storm_38 kc_m1 ?_
      exact g_iretT C dX8_storm_39
    · refine g_iload_n (pc := 16) C 3 rfl dX8_storm_16 rfl ?_
      refine g_iconst (pc := 17) (v := 0) C dX8_storm_17 kc_0 ?_
      refine g_sipush (pc := 18) (v := 600) C dX8_storm_18 ks_600 ?_
      refine g_callI (pc := 21) (rest := []) (g_runS C ms_RX8_71 (fun x1 hx1 => m_X8_in hx1) (by decide) rfl rfl (Nat.le_of_ble_eq_true rfl) dX8_storm_21) (fun r5 => ?_)
      refine g_if_eq (pc := 24) (tgt := 38) C dX8_storm_24 (by decide) (fun hc6 => ?_) (fun hc6 => ?_)
      · refine g_iconst (pc := 38) (v := -1) C dX8_storm_38 kc_m1 ?_
        exact g_iretT C dX8_storm_39
      · refine g_iload (pc := 27) C 4 rfl dX8_storm_27 ?_
        refine g_iconst (pc := 29) (v := 0) C dX8_storm_29 kc_0 ?_
        refine g_bipush (pc := 30) (v := 6) C dX8_storm_30 kb_6 ?_
        refine g_callI (pc := 32) (rest := []) (g_runS C ms_RX8_71 (fun x1 hx1 => m_X8_in hx1) (by decide) rfl rfl (Nat.le_of_ble_eq_true rfl) dX8_storm_32) (fun r7 => ?_)
        refine g_if_ne (pc := 35) (tgt := 40) C dX8_storm_35 (by decide) (fun hc8 => ?_) (fun hc8 => ?_)
        · refine g_iconst (pc := 38) (v := -1) C dX8_storm_38 kc_m1 ?_
          exact g_iretT C dX8_storm_39
        · refine g_aload_n (pc := 40) C 0 rfl dX8_storm_40 rfl ?_
          refine g_get (pc := 41) C so_RX8 10 fl_RX8_29 (v := .ref (w.2.1 (154))) rfl dX8_storm_41 ?_
          refine g_iload_n (pc := 44) C 1 rfl dX8_storm_44 rfl ?_
          refine g_zald (pc := 45) C sz_154 dX8_storm_45 (fun hb9 => ?_)
          refine g_if_eq (pc := 46) (tgt := 56) C dX8_storm_46 (by decide) (fun hc10 => ?_) (fun hc10 => ?_)
          · refine g_lv (lv' := [(0, .ref (w.2.1 (147)))]) [0] rfl ?_
            exact j_X8_storm_56 C h
          · refine g_aload_n (pc := 49) C 0 rfl dX8_storm_49 rfl ?_
            refine g_callI (pc := 50) (rest := []) (g_runV C mv_RX8_273 (fun x1 hx1 => m_X8_isAnyPlan hx1) so_RX8 rfl (by decide) rfl rfl (Nat.le_of_ble_eq_true rfl) dX8_storm_50) (fun r12 => ?_)
            refine g_if_ne (pc := 53) (tgt := 62) C dX8_storm_53 (by decide) (fun hc13 => ?_) (fun hc13 => ?_)
            · refine g_lv (lv' := [(0, .ref (w.2.1 (147)))]) [0] rfl ?_
              exact j_X8_storm_56 C h
            · refine g_bipush (pc := 62) (v := -9) C dX8_storm_62 kb_m9 ?_
              refine g_istore (pc := 64) C dX8_storm_64 (by decide) (lv' := [(5, .int (-9 : Int32)), (0, .ref (w.2.1 (147))), (1, .int x1), (2, .int x2), (3, .int x3), (4, .int x4)]) rfl ?_
              refine g_iconst (pc := 66) (v := 0) C dX8_storm_66 kc_0 ?_
              refine g_istore (pc := 67) C dX8_storm_67 (by decide) (lv' := [(6, .int (0 : Int32)), (5, .int (-9 : Int32)), (0, .ref (w.2.1 (147))), (1, .int x1), (2, .int x2), (3, .int x3), (4, .int x4)]) rfl ?_
              refine g_lv (lv' := [(0, .ref (w.2.1 (147))), (1, .int x1), (2, .int x2), (3, .int x3), (4, .int x4), (5, .int (-9 : Int32)), (6, .int (0 : Int32))]) [2, 3, 4, 5, 6, 1, 0] rfl ?_
              exact j_X8_storm_69 C KF x1 x2 x3 x4 (-9 : Int32) (0 : Int32) h
/-- SnowHouseModel.halls(III)I -/
def f_X8_halls_42    (h : TT) : Option (Int32 × TT) := (f_X8_meets h (1 : Int32)).bind fun q9 => some (q9.1, q9.2)
set_option maxRecDepth 20000 in
theorem j_X8_halls_42 {p : Program} {l : Launch} {e : Env} {R : Room} {s : State} {m : MethodId} {args : Array Value} {below : List Frame} {meth : Method} {c : Code} {w : WK} (C : CX p R s m args meth c w RX8 cX8_halls 8 (some .int) 12 264)       (h : TT) : GO p l e R s m args below meth c w 8 fIT (f_X8_halls_42 h) 42 [(0, .ref (w.2.1 (147)))] [] h := by
  unfold f_X8_halls_42
  refine g_aload_n (pc := 42) C 0 rfl dX8_halls_42 rfl ?_
  refine g_iconst (pc := 43) (v := 1) C dX8_halls_43 kc_1 ?_
  refine g_callIT (pc := 44) (rest := []) (g_runV C mv_RX8_85 (fun x1 hx1 => m_X8_meets hx1) so_RX8 rfl (by decide) rfl rfl (Nat.le_of_ble_eq_true rfl) dX8_halls_44) (fun q9 => ?_)
  exact g_iretT C dX8_halls_47
def f_X8_halls_334  (k328 : Int32 → Int32 → Int32 → Int32 → Int32 → TT → Option (Int32 × TT)) : Nat → Int32 → Int32 → Int32 → Int32 → Int32 → TT → Option (Int32 × TT)
  | 0, _, _, _, _, _, _ => none
  | n + 1, x3, x4, x5, x6, x7, h => if inb (((41 : Int32) * (x7 + (1 : Int32))) + x5) 205 = true then (if (h.1 162 (((41 : Int32) * (x7 + (1 : Int32))) + x5).toNatClampNeg) = x6 then k328 x3 x4 x5 x6 (x7 + (1 : Int32)) h else if inb (((60 : Int32) * x3) + x7) 360 = true then if inb (((60 : Int32) * x3) + x7) 360 = true then nm (wr h 150 (((60 : Int32) * x3) + x7).toNatClampNeg ((h.1 150 (((60 : Int32) * x3) + x7).toNatClampNeg) + (1 : Int32))) fun h26 => (f_X8_planPlaces h26 x7).bind fun r27 => (f_X8_greater h26 (0 : Int32) (x5 - r27)).bind fun r28 => (f_X8_planBlocks h26 x7).bind fun r29 => nm (x6 - r29) fun y30 => f_X8_halls_334 k328 n x3 x4 r28 y30 x7 h26 else none else none) else none
set_option maxRecDepth 20000 in
theorem j_X8_halls_334 {p : Program} {l : Launch} {e : Env} {R : Room} {s : State} {m : MethodId} {args : Array Value} {below : List Frame} {meth : Method} {c : Code} {w : WK} (C : CX p R s m args meth c w RX8 cX8_halls 8 (some .int) 12 264)    {k328 : Int32 → Int32 → Int32 → Int32 → Int32 → TT → Option (Int32 × TT)} (hk328 : ∀ (x3 : Int32) (x4 : Int32) (x5 : Int32) (x6 : Int32) (x7 : Int32)  (h : TT), GO p l e R s m args below meth c w 8 fIT (k328 x3 x4 x5 x6 x7 h) 328 [(0, .ref (w.2.1 (147))), (3, .int x3), (4, .int x4), (5, .int x5), (6, .int x6), (7, .int x7)] [] h) : ∀ (n : Nat) (x3 : Int32) (x4 : Int32) (x5 : Int32) (x6 : Int32) (x7 : Int32) (h : TT), GO p l e R s m args below meth c w 8 fIT (f_X8_halls_334 k328 n x3 x4 x5 x6 x7 h) 334 [(0, .ref (w.2.1 (147))), (3, .int x3), (4, .int x4), (5, .int x5), (6, .int x6), (7, .int x7)] [] h := by
  intro n
  induction n with
  | zero =>
    intro x3 x4 x5 x6 x7 h
    exact g_none
  | succ n ih =>
    intro x3 x4 x5 x6 x7 h
    rw [f_X8_halls_334]
    refine g_aload_n (pc := 334) C 0 rfl dX8_halls_334 rfl ?_
    refine g_get (pc := 335) C so_RX8 23 fl_RX8_54 (v := .ref (w.2.1 (162))) rfl dX8_halls_335 ?_
    refine g_bipush (pc := 338) (v := 41) C dX8_halls_338 kb_41 ?_
    refine g_iload (pc := 340) C 5 rfl dX8_halls_340 ?_
    refine g_iconst (pc := 342) (v := 1) C dX8_halls_342 kc_1 ?_
    refine g_iadd (pc := 343) C dX8_halls_343 ?_
    refine g_imul (pc := 344) C dX8_halls_344 ?_
    refine g_iload (pc := 345) C 3 rfl dX8_halls_345 ?_
    refine g_iadd (pc := 347) C dX8_halls_347 ?_
    refine g_iald (pc := 348) C si_162 dX8_halls_348 (fun hb22 => ?_)
    refine g_iload (pc := 349) C 4 rfl dX8_halls_349 ?_
    refine g_icmp_eq (pc := 351) (tgt := 399) C dX8_halls_351 (by decide) (fun hc23 => ?_) (fun hc23 => ?_)
    · refine g_iinc (pc := 399) C 5 rfl dX8_halls_399 (ki_1 _) (by decide) (lv' := [(7, .int (x7 + (1 : Int32))), (0, .ref (w.2.1 (147))), (3, .int x3), (4, .int x4), (5, .int x5), (6, .int x6)]) rfl ?_
      refine g_goto (pc := 402) (tgt := 328) C dX8_halls_402 (by decide) ?_
      refine g_lv (lv' := [(0, .ref (w.2.1 (147))), (3, .int x3), (4, .int x4), (5, .int x5), (6, .int x6), (7, .int (x7 + (1 : Int32)))]) [1, 2, 3, 4, 5, 0] rfl ?_
      exact hk328 x3 x4 x5 x6 (x7 + (1 : Int32)) h
    · refine g_aload_n (pc := 354) C 0 rfl dX8_halls_354 rfl ?_
      refine g_get (pc := 355) C so_RX8 6 fl_RX8_16 (v := .ref (w.2.1 (150))) rfl dX8_halls_355 ?_
      refine g_bipush (pc := 358) (v := 60) C dX8_halls_358 kb_60 ?_
      refine g_iload_n (pc := 360) C 1 rfl dX8_halls_360 rfl ?_
      refine g_imul (pc := 361) C dX8_halls_361 ?_
      refine g_iload (pc := 362) C 5 rfl dX8_halls_362 ?_
      refine g_iadd (pc := 364) C dX8_halls_364 ?_
      refine g_dup2 (pc := 365) C dX8_halls_365 rfl rfl ?_
      refine g_iald (pc := 366) C si_150 dX8_halls_366 (fun hb24 => ?_)
      refine g_iconst (pc := 367) (v := 1) C dX8_halls_367 kc_1 ?_
      refine g_iadd (pc := 368) C dX8_halls_368 ?_
      refine g_iast (pc := 369) C si_150 dX8_halls_369 (fun hb25 => ?_)
      refine g_nm (fun h26 => ?_)
      refine g_iconst (pc := 370) (v := 0) C dX8_halls_370 kc_0 ?_
      refine g_iload (pc := 371) C 3 rfl dX8_halls_371 ?_
      refine g_aload_n (pc := 373) C 0 rfl dX8_halls_373 rfl ?_
      refine g_iload (pc := 374) C 5 rfl dX8_halls_374 ?_
      refine g_callI (pc := 376) (rest := [.int x5, .int (0 : Int32)]) (g_runV C mv_RX8_142 (fun x1 hx1 => m_X8_planPlaces hx1) so_RX8 rfl (by decide) rfl rfl (Nat.le_of_ble_eq_true rfl) dX8_halls_376) (fun r27 => ?_)
      refine g_isub (pc := 379) C dX8_halls_379 ?_
      refine g_callI (pc := 380) (rest := []) (g_runS C ms_RX8_284 (fun x1 hx1 => m_X8_greater hx1) (by decide) rfl rfl (Nat.le_of_ble_eq_true rfl) dX8_halls_380) (fun r28 => ?_)
      refine g_istore (pc := 383) C dX8_halls_383 (by decide) (lv' := [(5, .int r28), (0, .ref (w.2.1 (147))), (3, .int x3), (4, .int x4), (6, .int x6), (7, .int x7)]) rfl ?_
      refine g_iload (pc := 385) C 4 rfl dX8_halls_385 ?_
      refine g_aload_n (pc := 387) C 1 rfl dX8_halls_387 rfl ?_
      refine g_iload (pc := 388) C 5 rfl dX8_halls_388 ?_
      refine g_callI (pc := 390) (rest := [.int x6]) (g_runV C mv_RX8_139 (fun x1 hx1 => m_X8_planBlocks hx1) so_RX8 rfl (by decide) rfl rfl (Nat.le_of_ble_eq_true rfl) dX8_halls_390) (fun r29 => ?_)
      refine g_isub (pc := 393) C dX8_halls_393 ?_
      refine g_nmi (fun y30 => ?_)
      refine g_istore (pc := 394) C dX8_halls_394 (by decide) (lv' := [(6, .int y30), (5, .int r28), (0, .ref (w.2.1 (147))), (3, .int x3), (4, .int x4), (7, .int x7)]) rfl ?_
      refine g_goto (pc := 396) (tgt := 334) C dX8_halls_396 (by decide) ?_
      refine g_lv (lv' := [(0, .ref (w.2.1 (147))), (3, .int x3), (4, .int x4), (5, .int r28), (6, .int y30), (7, .int x7)]) [2, 3, 4, 1, 0, 5] rfl ?_
      exact ih x3 x4 r28 y30 x7 h26
def f_X8_halls_328   : Nat → Int32 → Int32 → Int32 → Int32 → Int32 → TT → Option (Int32 × TT)
  | 0, _, _, _, _, _, _ => none
  | n + 1, x3, x4, x5, x6, x7, h => (if (4 : Int32) ≤ x7 then some (x4, h) else f_X8_halls_334 (f_X8_halls_328 n) KF x3 x4 x5 x6 x7 h)
set_option maxRecDepth 20000 in
theorem j_X8_halls_328 {p : Program} {l : Launch} {e : Env} {R : Room} {s : State} {m : MethodId} {args : Array Value} {below : List Frame} {meth : Method} {c : Code} {w : WK} (C : CX p R s m args meth c w RX8 cX8_halls 8 (some .int) 12 264)     : ∀ (n : Nat) (x3 : Int32) (x4 : Int32) (x5 : Int32) (x6 : Int32) (x7 : Int32) (h : TT), GO p l e R s m args below meth c w 8 fIT (f_X8_halls_328 n x3 x4 x5 x6 x7 h) 328 [(0, .ref (w.2.1 (147))), (3, .int x3), (4, .int x4), (5, .int x5), (6, .int x6), (7, .int x7)] [] h := by
  intro n
  induction n with
  | zero =>
    intro x3 x4 x5 x6 x7 h
    exact g_none
  | succ n ih =>
    intro x3 x4 x5 x6 x7 h
    rw [f_X8_halls_328]
    refine g_iload (pc := 328) C 5 rfl dX8_halls_328 ?_
    refine g_iconst (pc := 330) (v := 4) C dX8_halls_330 kc_4 ?_
    refine g_icmp_ge (pc := 331) (tgt := 405) C dX8_halls_331 (by decide) (fun hc21 => ?_) (fun hc21 => ?_)
    · refine g_iload (pc := 405) C 2 rfl dX8_halls_405 ?_
      exact g_iretT C dX8_halls_407
    · exact j_X8_halls_334 C ih KF x3 x4 x5 x6 x7 h
def f_X8_halls_292   : Nat → Int32 → Int32 → Int32 → Int32 → TT → Option (Int32 × TT)
  | 0, _, _, _, _, _ => none
  | n + 1, x2, x3, x4, x5, h => (if (60 : Int32) ≤ x5 then f_X8_halls_328 KF x3 x4 x2 x4 (0 : Int32) h else if inb (((60 : Int32) * x3) + x5) 360 = true then nm (wr h 150 (((60 : Int32) * x3) + x5).toNatClampNeg (0 : Int32)) fun h32 => f_X8_halls_292 n x2 x3 x4 (x5 + (1 : Int32)) h32 else none)
set_option maxRecDepth 20000 in
theorem j_X8_halls_292 {p : Program} {l : Launch} {e : Env} {R : Room} {s : State} {m : MethodId} {args : Array Value} {below : List Frame} {meth : Method} {c : Code} {w : WK} (C : CX p R s m args meth c w RX8 cX8_halls 8 (some .int) 12 264)     : ∀ (n : Nat) (x2 : Int32) (x3 : Int32) (x4 : Int32) (x5 : Int32) (h : TT), GO p l e R s m args below meth c w 8 fIT (f_X8_halls_292 n x2 x3 x4 x5 h) 292 [(0, .ref (w.2.1 (147))), (2, .int x2), (3, .int x3), (4, .int x4), (5, .int x5)] [] h := by
  intro n
  induction n with
  | zero =>
    intro x2 x3 x4 x5 h
    exact g_none
  | succ n ih =>
    intro x2 x3 x4 x5 h
    rw [f_X8_halls_292]
    refine g_iload (pc := 292) C 4 rfl dX8_halls_292 ?_
    refine g_bipush (pc := 294) (v := 60) C dX8_halls_294 kb_60 ?_
    refine g_icmp_ge (pc := 296) (tgt := 318) C dX8_halls_296 (by decide) (fun hc20 => ?_) (fun hc20 => ?_)
    · refine g_iload_n (pc := 318) C 1 rfl dX8_halls_318 rfl ?_
      refine g_istore (pc := 319) C dX8_halls_319 (by decide) (lv' := [(5, .int x2), (0, .ref (w.2.1 (147))), (2, .int x2), (3, .int x3), (4, .int x4)]) rfl ?_
      refine g_iload (pc := 321) C 4 rfl dX8_halls_321 ?_
      refine g_istore (pc := 323) C dX8_halls_323 (by decide) (lv' := [(6, .int x4), (5, .int x2), (0, .ref (w.2.1 (147))), (2, .int x2), (3, .int x3), (4, .int x4)]) rfl ?_
      refine g_iconst (pc := 325) (v := 0) C dX8_halls_325 kc_0 ?_
      refine g_istore (pc := 326) C dX8_halls_326 (by decide) (lv' := [(7, .int (0 : Int32)), (6, .int x4), (5, .int x2), (0, .ref (w.2.1 (147))), (2, .int x2), (3, .int x3), (4, .int x4)]) rfl ?_
      refine g_lv (lv' := [(0, .ref (w.2.1 (147))), (3, .int x3), (4, .int x4), (5, .int x2), (6, .int x4), (7, .int (0 : Int32))]) [3, 5, 6, 2, 1, 0] rfl ?_
      exact j_X8_halls_328 C KF x3 x4 x2 x4 (0 : Int32) h
    · refine g_aload_n (pc := 299) C 0 rfl dX8_halls_299 rfl ?_
      refine g_get (pc := 300) C so_RX8 6 fl_RX8_16 (v := .ref (w.2.1 (150))) rfl dX8_halls_300 ?_
      refine g_bipush (pc := 303) (v := 60) C dX8_halls_303 kb_60 ?_
      refine g_iload_n (pc := 305) C 2 rfl dX8_halls_305 rfl ?_
      refine g_imul (pc := 306) C dX8_halls_306 ?_
      refine g_iload (pc := 307) C 4 rfl dX8_halls_307 ?_
      refine g_iadd (pc := 309) C dX8_halls_309 ?_
      refine g_iconst (pc := 310) (v := 0) C dX8_halls_310 kc_0 ?_
      refine g_iast (pc := 311) C si_150 dX8_halls_311 (fun hb31 => ?_)
      refine g_nm (fun h32 => ?_)
      refine g_iinc (pc := 312) C 4 rfl dX8_halls_312 (ki_1 _) (by decide) (lv' := [(5, .int (x5 + (1 : Int32))), (0, .ref (w.2.1 (147))), (2, .int x2), (3, .int x3), (4, .int x4)]) rfl ?_
      refine g_goto (pc := 315) (tgt := 292) C dX8_halls_315 (by decide) ?_
      refine g_lv (lv' := [(0, .ref (w.2.1 (147))), (2, .int x2), (3, .int x3), (4, .int x4), (5, .int (x5 + (1 : Int32)))]) [1, 2, 3, 4, 0] rfl ?_
      exact ih x2 x3 x4 (x5 + (1 : Int32)) h32
def f_X8_halls_229  (k146 : Int32 → Int32 → Int32 → TT → Option (Int32 × TT)) (k154 : Int32 → Int32 → Int32 → Int32 → TT → Option (Int32 × TT)) (x2 : Int32) (x3 : Int32) (x4 : Int32) (x5 : Int32) (x6 : Int32) (xs0 : Int32) (h : TT) : Option (Int32 × TT) := (f_X8_lesser h x6 xs0).bind fun r37 => if inb (((41 : Int32) * x4) + x5) 205 = true then nm (wr h 162 (((41 : Int32) * x4) + x5).toNatClampNeg r37) fun h39 => k154 x2 x3 x4 (x5 + (1 : Int32)) h39 else none
set_option maxRecDepth 20000 in
theorem j_X8_halls_229 {p : Program} {l : Launch} {e : Env} {R : Room} {s : State} {m : MethodId} {args : Array Value} {below : List Frame} {meth : Method} {c : Code} {w : WK} (C : CX p R s m args meth c w RX8 cX8_halls 8 (some .int) 12 264)    {k146 : Int32 → Int32 → Int32 → TT → Option (Int32 × TT)} (hk146 : ∀ (x2 : Int32) (x3 : Int32) (x4 : Int32)  (h : TT), GO p l e R s m args below meth c w 8 fIT (k146 x2 x3 x4 h) 146 [(0, .ref (w.2.1 (147))), (2, .int x2), (3, .int x3), (4, .int x4)] [] h) {k154 : Int32 → Int32 → Int32 → Int32 → TT → Option (Int32 × TT)} (hk154 : ∀ (x2 : Int32) (x3 : Int32) (x4 : Int32) (x5 : Int32)  (h : TT), GO p l e R s m args below meth c w 8 fIT (k154 x2 x3 x4 x5 h) 154 [(0, .ref (w.2.1 (147))), (2, .int x2), (3, .int x3), (4, .int x4), (5, .int x5)] [] h) (x2 : Int32) (x3 : Int32) (x4 : Int32) (x5 : Int32) (x6 : Int32) (xs0 : Int32)  (h : TT) : GO p l e R s m args below meth c w 8 fIT (f_X8_halls_229 k146 k154 x2 x3 x4 x5 x6 xs0 h) 229 [(0, .ref (w.2.1 (147))), (2, .int x2), (3, .int x3), (4, .int x4), (5, .int x5), (6, .int x6)] [.int xs0] h := by
  unfold f_X8_halls_229
  refine g_istore (pc := 229) C dX8_halls_229 (by decide) (lv' := [(7, .int xs0), (0, .ref (w.2.1 (147))), (2, .int x2), (3, .int x3), (4, .int x4), (5, .int x5), (6, .int x6)]) rfl ?_
  refine g_aload_n (pc := 231) C 1 rfl dX8_halls_231 rfl ?_
  refine g_get (pc := 232) C so_RX8 23 fl_RX8_54 (v := .ref (w.2.1 (162))) rfl dX8_halls_232 ?_
  refine g_bipush (pc := 235) (v := 41) C dX8_halls_235 kb_41 ?_
  refine g_iload (pc := 237) C 4 rfl dX8_halls_237 ?_
  refine g_imul (pc := 239) C dX8_halls_239 ?_
  refine g_iload (pc := 240) C 5 rfl dX8_halls_240 ?_
  refine g_iadd (pc := 242) C dX8_halls_242 ?_
  refine g_iload (pc := 243) C 6 rfl dX8_halls_243 ?_
  refine g_iload (pc := 245) C 0 rfl dX8_halls_245 ?_
  refine g_callI (pc := 247) (rest := [.int (((41 : Int32) * x4) + x5), .ref (w.2.1 (162))]) (g_runS C ms_RX8_203 (fun x1 hx1 => m_X8_lesser hx1) (by decide) rfl rfl (Nat.le_of_ble_eq_true rfl) dX8_halls_247) (fun r37 => ?_)
  refine g_iast (pc := 250) C si_162 dX8_halls_250 (fun hb38 => ?_)
  refine g_nm (fun h39 => ?_)
  refine g_iinc (pc := 251) C 5 rfl dX8_halls_251 (ki_1 _) (by decide) (lv' := [(5, .int (x5 + (1 : Int32))), (7, .int xs0), (0, .ref (w.2.1 (147))), (2, .int x2), (3, .int x3), (4, .int x4), (6, .int x6)]) rfl ?_
  refine g_goto (pc := 254) (tgt := 154) C dX8_halls_254 (by decide) ?_
  refine g_lv (lv' := [(0, .ref (w.2.1 (147))), (2, .int x2), (3, .int x3), (4, .int x4), (5, .int (x5 + (1 : Int32)))]) [2, 3, 4, 5, 0] rfl ?_
  exact hk154 x2 x3 x4 (x5 + (1 : Int32)) h39
def f_X8_halls_226  (k146 : Int32 → Int32 → Int32 → TT → Option (Int32 × TT)) (k154 : Int32 → Int32 → Int32 → Int32 → TT → Option (Int32 × TT)) (x2 : Int32) (x3 : Int32) (x4 : Int32) (x5 : Int32) (x6 : Int32) (h : TT) : Option (Int32 × TT) := f_X8_halls_229 k146 k154 x2 x3 x4 x5 x6 (1000000 : Int32) h
set_option maxRecDepth 20000 in
theorem j_X8_halls_226 {p : Program} {l : Launch} {e : Env} {R : Room} {s : State} {m : MethodId} {args : Array Value} {below : List Frame} {meth : Method} {c : Code} {w : WK} (C : CX p R s m args meth c w RX8 cX8_halls 8 (some .int) 12 264)    {k146 : Int32 → Int32 → Int32 → TT → Option (Int32 × TT)} (hk146 : ∀ (x2 : Int32) (x3 : Int32) (x4 : Int32)  (h : TT), GO p l e R s m args below meth c w 8 fIT (k146 x2 x3 x4 h) 146 [(0, .ref (w.2.1 (147))), (2, .int x2), (3, .int x3), (4, .int x4)] [] h) {k154 : Int32 → Int32 → Int32 → Int32 → TT → Option (Int32 × TT)} (hk154 : ∀ (x2 : Int32) (x3 : Int32) (x4 : Int32) (x5 : Int32)  (h : TT), GO p l e R s m args below meth c w 8 fIT (k154 x2 x3 x4 x5 h) 154 [(0, .ref (w.2.1 (147))), (2, .int x2), (3, .int x3), (4, .int x4), (5, .int x5)] [] h) (x2 : Int32) (x3 : Int32) (x4 : Int32) (x5 : Int32) (x6 : Int32)  (h : TT) : GO p l e R s m args below meth c w 8 fIT (f_X8_halls_226 k146 k154 x2 x3 x4 x5 x6 h) 226 [(0, .ref (w.2.1 (147))), (2, .int x2), (3, .int x3), (4, .int x4), (5, .int x5), (6, .int x6)] [] h := by
  unfold f_X8_halls_226
  refine g_ldcw (pc := 226) C wd_RX8_283 dX8_halls_226 ?_
  exact j_X8_halls_229 C hk146 hk154 x2 x3 x4 x5 x6 (1000000 : Int32) h
def f_X8_halls_154  (k146 : Int32 → Int32 → Int32 → TT → Option (Int32 × TT)) : Nat → Int32 → Int32 → Int32 → Int32 → TT → Option (Int32 × TT)
  | 0, _, _, _, _, _ => none
  | n + 1, x2, x3, x4, x5, h => (if x2 < x5 then k146 x2 x3 (x4 + (-1 : Int32)) h else if inb (((41 : Int32) * (x4 + (1 : Int32))) + x5) 205 = true then nm (h.1 162 (((41 : Int32) * (x4 + (1 : Int32))) + x5).toNatClampNeg) fun y35 => (if x5 ≤ 0 then f_X8_halls_226 k146 (f_X8_halls_154 k146 n) x2 x3 x4 x5 y35 h else if inb x4 4 = true then (if (h.1 163 x4.toNatClampNeg) = 0 then f_X8_halls_226 k146 (f_X8_halls_154 k146 n) x2 x3 x4 x5 y35 h else (f_X8_planBlocks h x4).bind fun r42 => (f_X8_planPlaces h x4).bind fun r43 => (f_X8_greater h (0 : Int32) (x5 - r43)).bind fun r44 => if inb (((41 : Int32) * x4) + r44) 205 = true then f_X8_halls_229 k146 (f_X8_halls_154 k146 n) x2 x3 x4 x5 y35 (r42 + (h.1 162 (((41 : Int32) * x4) + r44).toNatClampNeg)) h else none) else none) else none)
set_option maxRecDepth 20000 in
theorem j_X8_halls_154 {p : Program} {l : Launch} {e : Env} {R : Room} {s : State} {m : MethodId} {args : Array Value} {below : List Frame} {meth : Method} {c : Code} {w : WK} (C : CX p R s m args meth c w RX8 cX8_halls 8 (some .int) 12 264)    {k146 : Int32 → Int32 → Int32 → TT → Option (Int32 × TT)} (hk146 : ∀ (x2 : Int32) (x3 : Int32) (x4 : Int32)  (h : TT), GO p l e R s m args below meth c w 8 fIT (k146 x2 x3 x4 h) 146 [(0, .ref (w.2.1 (147))), (2, .int x2), (3, .int x3), (4, .int x4)] [] h) : ∀ (n : Nat) (x2 : Int32) (x3 : Int32) (x4 : Int32) (x5 : Int32) (h : TT), GO p l e R s m args below meth c w 8 fIT (f_X8_halls_154 k146 n x2 x3 x4 x5 h) 154 [(0, .ref (w.2.1 (147))), (2, .int x2), (3, .int x3), (4, .int x4), (5, .int x5)] [] h := by
  intro n
  induction n with
  | zero =>
    intro x2 x3 x4 x5 h
    exact g_none
  | succ n ih =>
    intro x2 x3 x4 x5 h
    rw [f_X8_halls_154]
    refine g_iload (pc := 154) C 4 rfl dX8_halls_154 ?_
    refine g_iload_n (pc := 156) C 1 rfl dX8_halls_156 rfl ?_
    refine g_icmp_gt (pc := 157) (tgt := 257) C dX8_halls_157 (by decide) (fun hc33 => ?_) (fun hc33 => ?_)
    · refine g_iinc (pc := 257) C 3 rfl dX8_halls_257 (ki_m1 _) (by decide) (lv' := [(4, .int (x4 + (-1 : Int32))), (0, .ref (w.2.1 (147))), (2, .int x2), (3, .int x3), (5, .int x5)]) rfl ?_
      refine g_goto (pc := 260) (tgt := 146) C dX8_halls_260 (by decide) ?_
      refine g_lv (lv' := [(0, .ref (w.2.1 (147))), (2, .int x2), (3, .int x3), (4, .int (x4 + (-1 : Int32)))]) [1, 2, 3, 0] rfl ?_
      exact hk146 x2 x3 (x4 + (-1 : Int32)) h
    · refine g_aload_n (pc := 160) C 0 rfl dX8_halls_160 rfl ?_
      refine g_get (pc := 161) C so_RX8 23 fl_RX8_54 (v := .ref (w.2.1 (162))) rfl dX8_halls_161 ?_
      refine g_bipush (pc := 164) (v := 41) C dX8_halls_164 kb_41 ?_
      refine g_iload (pc := 166) C 3 rfl dX8_halls_166 ?_
      refine g_iconst (pc := 168) (v := 1) C dX8_halls_168 kc_1 ?_
      refine g_iadd (pc := 169) C dX8_halls_169 ?_
      refine g_imul (pc := 170) C dX8_halls_170 ?_
      refine g_iload (pc := 171) C 4 rfl dX8_halls_171 ?_
      refine g_iadd (pc := 173) C dX8_halls_173 ?_
      refine g_iald (pc := 174) C si_162 dX8_halls_174 (fun hb34 => ?_)
      refine g_nmi (fun y35 => ?_)
      refine g_istore (pc := 175) C dX8_halls_175 (by decide) (lv' := [(6, .int y35), (0, .ref (w.2.1 (147))), (2, .int x2), (3, .int x3), (4, .int x4), (5, .int x5)]) rfl ?_
      refine g_iload (pc := 177) C 5 rfl dX8_halls_177 ?_
      refine g_if_le (pc := 179) (tgt := 226) C dX8_halls_179 (by decide) (fun hc36 => ?_) (fun hc36 => ?_)
      · refine g_lv (lv' := [(0, .ref (w.2.1 (147))), (2, .int x2), (3, .int x3), (4, .int x4), (5, .int x5), (6, .int y35)]) [1, 2, 3, 4, 5, 0] rfl ?_
        exact j_X8_halls_226 C hk146 ih x2 x3 x4 x5 y35 h
      · refine g_aload_n (pc := 182) C 1 rfl dX8_halls_182 rfl ?_
        refine g_get (pc := 183) C so_RX8 24 fl_RX8_57 (v := .ref (w.2.1 (163))) rfl dX8_halls_183 ?_
        refine g_iload (pc := 186) C 4 rfl dX8_halls_186 ?_
        refine g_zald (pc := 188) C sz_163 dX8_halls_188 (fun hb40 => ?_)
        refine g_if_eq (pc := 189) (tgt := 226) C dX8_halls_189 (by decide) (fun hc41 => ?_) (fun hc41 => ?_)
        · refine g_lv (lv' := [(0, .ref (w.2.1 (147))), (2, .int x2), (3, .int x3), (4, .int x4), (5, .int x5), (6, .int y35)]) [1, 2, 3, 4, 5, 0] rfl ?_
          exact j_X8_halls_226 C hk146 ih x2 x3 x4 x5 y35 h
        · refine g_aload_n (pc := 192) C 1 rfl dX8_halls_192 rfl ?_
          refine g_iload (pc := 193) C 4 rfl dX8_halls_193 ?_
          refine g_callI (pc := 195) (rest := []) (g_runV C mv_RX8_139 (fun x1 hx1 => m_X8_planBlocks hx1) so_RX8 rfl (by decide) rfl rfl (Nat.le_of_ble_eq_true rfl) dX8_halls_195) (fun r42 => ?_)
          refine g_aload_n (pc := 198) C 1 rfl dX8_halls_198 rfl ?_
          refine g_get (pc := 199) C so_RX8 23 fl_RX8_54 (v := .ref (w.2.1 (162))) rfl dX8_halls_199 ?_
          refine g_bipush (pc := 202) (v := 41) C dX8_halls_202 kb_41 ?_
          refine g_iload (pc := 204) C 4 rfl dX8_halls_204 ?_
          refine g_imul (pc := 206) C dX8_halls_206 ?_
          refine g_iconst (pc := 207) (v := 0) C dX8_halls_207 kc_0 ?_
          refine g_iload (pc := 208) C 5 rfl dX8_halls_208 ?_
          refine g_aload_n (pc := 210) C 1 rfl dX8_halls_210 rfl ?_
          refine g_iload (pc := 211) C 4 rfl dX8_halls_211 ?_
          refine g_callI (pc := 213) (rest := [.int x5, .int (0 : Int32), .int ((41 : Int32) * x4), .ref (w.2.1 (162)), .int r42]) (g_runV C mv_RX8_142 (fun x1 hx1 => m_X8_planPlaces hx1) so_RX8 rfl (by decide) rfl rfl (Nat.le_of_ble_eq_true rfl) dX8_halls_213) (fun r43 => ?_)
          refine g_isub (pc := 216) C dX8_halls_216 ?_
          refine g_callI (pc := 217) (rest := [.int ((41 : Int32) * x4), .ref (w.2.1 (162)), .int r42]) (g_runS C ms_RX8_284 (fun x1 hx1 => m_X8_greater hx1) (by decide) rfl rfl (Nat.le_of_ble_eq_true rfl) dX8_halls_217) (fun r44 => ?_)
          refine g_iadd (pc := 220) C dX8_halls_220 ?_
          refine g_iald (pc := 221) C si_162 dX8_halls_221 (fun hb45 => ?_)
          refine g_iadd (pc := 222) C dX8_halls_222 ?_
          refine g_goto (pc := 223) (tgt := 229) C dX8_halls_223 (by decide) ?_
          refine g_lv (lv' := [(0, .ref (w.2.1 (147))), (2, .int x2), (3, .int x3), (4, .int x4), (5, .int x5), (6, .int y35)]) [1, 2, 3, 4, 5, 0] rfl ?_
          exact j_X8_halls_229 C hk146 ih x2 x3 x4 x5 y35 (r42 + (h.1 162 (((41 : Int32) * x4) + r44).toNatClampNeg)) h
def f_X8_halls_146   : Nat → Int32 → Int32 → Int32 → TT → Option (Int32 × TT)
  | 0, _, _, _, _ => none
  | n + 1, x2, x3, x4, h => (if x4 < 0 then if inb x2 205 = true then nm (h.1 162 x2.toNatClampNeg) fun y16 => (if y16 < (1000000 : Int32) then if inb x3 6 = true then nm (wr h 149 x3.toNatClampNeg (4 : Int32)) fun h19 => f_X8_halls_292 KF x2 x3 y16 (0 : Int32) h19 else none else some ((-9 : Int32), h)) else none else f_X8_halls_154 (f_X8_halls_146 n) KF x2 x3 x4 (0 : Int32) h)
set_option maxRecDepth 20000 in
theorem j_X8_halls_146 {p : Program} {l : Launch} {e : Env} {R : Room} {s : State} {m : MethodId} {args : Array Value} {below : List Frame} {meth : Method} {c : Code} {w : WK} (C : CX p R s m args meth c w RX8 cX8_halls 8 (some .int) 12 264)     : ∀ (n : Nat) (x2 : Int32) (x3 : Int32) (x4 : Int32) (h : TT), GO p l e R s m args below meth c w 8 fIT (f_X8_halls_146 n x2 x3 x4 h) 146 [(0, .ref (w.2.1 (147))), (2, .int x2), (3, .int x3), (4, .int x4)] [] h := by
  intro n
  induction n with
  | zero =>
    intro x2 x3 x4 h
    exact g_none
  | succ n ih =>
    intro x2 x3 x4 h
    rw [f_X8_halls_146]
    refine g_iload (pc := 146) C 3 rfl dX8_halls_146 ?_
    refine g_if_lt (pc := 148) (tgt := 263) C dX8_halls_148 (by decide) (fun hc14 => ?_) (fun hc14 => ?_)
    · refine g_aload_n (pc := 263) C 0 rfl dX8_halls_263 rfl ?_
      refine g_get (pc := 264) C so_RX8 23 fl_RX8_54 (v := .ref (w.2.1 (162))) rfl dX8_halls_264 ?_
      refine g_iload_n (pc := 267) C 1 rfl dX8_halls_267 rfl ?_
      refine g_iald (pc := 268) C si_162 dX8_halls_268 (fun hb15 => ?_)
      refine g_nmi (fun y16 => ?_)
      refine g_istore (pc := 269) C dX8_halls_269 (by decide) (lv' := [(4, .int y16), (0, .ref (w.2.1 (147))), (2, .int x2), (3, .int x3)]) rfl ?_
      refine g_iload (pc := 271) C 0 rfl dX8_halls_271 ?_
      refine g_ldcw (pc := 273) C wd_RX8_283 dX8_halls_273 ?_
      refine g_icmp_lt (pc := 276) (tgt := 282) C dX8_halls_276 (by decide) (fun hc17 => ?_) (fun hc17 => ?_)
      · refine g_aload_n (pc := 282) C 1 rfl dX8_halls_282 rfl ?_
        refine g_get (pc := 283) C so_RX8 5 fl_RX8_13 (v := .ref (w.2.1 (149))) rfl dX8_halls_283 ?_
        refine g_iload_n (pc := 286) C 3 rfl dX8_halls_286 rfl ?_
        refine g_iconst (pc := 287) (v := 4) C dX8_halls_287 kc_4 ?_
        refine g_iast (pc := 288) C si_149 dX8_halls_288 (fun hb18 => ?_)
        refine g_nm (fun h19 => ?_)
        refine g_iconst (pc := 289) (v := 0) C dX8_halls_289 kc_0 ?_
        refine g_istore (pc := 290) C dX8_halls_290 (by decide) (lv' := [(5, .int (0 : Int32)), (4, .int y16), (0, .ref (w.2.1 (147))), (2, .int x2), (3, .int x3)]) rfl ?_
        refine g_lv (lv' := [(0, .ref (w.2.1 (147))), (2, .int x2), (3, .int x3), (4, .int y16), (5, .int (0 : Int32))]) [2, 3, 4, 1, 0] rfl ?_
        exact j_X8_halls_292 C KF x2 x3 y16 (0 : Int32) h19
      · refine g_bipush (pc := 279) (v := -9) C dX8_halls_279 kb_m9 ?_
        exact g_iretT C dX8_halls_281
    · refine g_iconst (pc := 151) (v := 0) C dX8_halls_151 kc_0 ?_
      refine g_istore (pc := 152) C dX8_halls_152 (by decide) (lv' := [(5, .int (0 : Int32)), (0, .ref (w.2.1 (147))), (2, .int x2), (3, .int x3), (4, .int x4)]) rfl ?_
      refine g_lv (lv' := [(0, .ref (w.2.1 (147))), (2, .int x2), (3, .int x3), (4, .int x4), (5, .int (0 : Int32))]) [1, 2, 3, 4, 0] rfl ?_
      exact j_X8_halls_154 C ih KF x2 x3 x4 (0 : Int32) h
def f_X8_halls_136  (k108 : Int32 → Int32 → Int32 → TT → Option (Int32 × TT)) (x2 : Int32) (x3 : Int32) (x4 : Int32) (xs0 : Int32) (xs1 : Int32) (h : TT) : Option (Int32 × TT) := if inb xs1 205 = true then nm (wr h 162 xs1.toNatClampNeg xs0) fun h48 => k108 x2 x3 (x4 + (1 : Int32)) h48 else none
set_option maxRecDepth 20000 in
theorem j_X8_halls_136 {p : Program} {l : Launch} {e : Env} {R : Room} {s : State} {m : MethodId} {args : Array Value} {below : List Frame} {meth : Method} {c : Code} {w : WK} (C : CX p R s m args meth c w RX8 cX8_halls 8 (some .int) 12 264)    {k108 : Int32 → Int32 → Int32 → TT → Option (Int32 × TT)} (hk108 : ∀ (x2 : Int32) (x3 : Int32) (x4 : Int32)  (h : TT), GO p l e R s m args below meth c w 8 fIT (k108 x2 x3 x4 h) 108 [(0, .ref (w.2.1 (147))), (2, .int x2), (3, .int x3), (4, .int x4)] [] h) (x2 : Int32) (x3 : Int32) (x4 : Int32) (xs0 : Int32) (xs1 : Int32)  (h : TT) : GO p l e R s m args below meth c w 8 fIT (f_X8_halls_136 k108 x2 x3 x4 xs0 xs1 h) 136 [(0, .ref (w.2.1 (147))), (2, .int x2), (3, .int x3), (4, .int x4)] [.int xs0, .int xs1, .ref (w.2.1 (162))] h := by
  unfold f_X8_halls_136
  refine g_iast (pc := 136) C si_162 dX8_halls_136 (fun hb47 => ?_)
  refine g_nm (fun h48 => ?_)
  refine g_iinc (pc := 137) C 3 rfl dX8_halls_137 (ki_1 _) (by decide) (lv' := [(4, .int (x4 + (1 : Int32))), (0, .ref (w.2.1 (147))), (2, .int x2), (3, .int x3)]) rfl ?_
  refine g_goto (pc := 140) (tgt := 108) C dX8_halls_140 (by decide) ?_
  refine g_lv (lv' := [(0, .ref (w.2.1 (147))), (2, .int x2), (3, .int x3), (4, .int (x4 + (1 : Int32)))]) [1, 2, 3, 0] rfl ?_
  exact hk108 x2 x3 (x4 + (1 : Int32)) h48
def f_X8_halls_108   : Nat → Int32 → Int32 → Int32 → TT → Option (Int32 × TT)
  | 0, _, _, _, _ => none
  | n + 1, x2, x3, x4, h => (if x2 < x4 then f_X8_halls_146 KF x2 x3 (3 : Int32) h else (if x4 = 0 then f_X8_halls_136 (f_X8_halls_108 n) x2 x3 x4 (0 : Int32) ((164 : Int32) + x4) h else f_X8_halls_136 (f_X8_halls_108 n) x2 x3 x4 (1000000 : Int32) ((164 : Int32) + x4) h))
set_option maxRecDepth 20000 in
theorem j_X8_halls_108 {p : Program} {l : Launch} {e : Env} {R : Room} {s : State} {m : MethodId} {args : Array Value} {below : List Frame} {meth : Method} {c : Code} {w : WK} (C : CX p R s m args meth c w RX8 cX8_halls 8 (some .int) 12 264)     : ∀ (n : Nat) (x2 : Int32) (x3 : Int32) (x4 : Int32) (h : TT), GO p l e R s m args below meth c w 8 fIT (f_X8_halls_108 n x2 x3 x4 h) 108 [(0, .ref (w.2.1 (147))), (2, .int x2), (3, .int x3), (4, .int x4)] [] h := by
  intro n
  induction n with
  | zero =>
    intro x2 x3 x4 h
    exact g_none
  | succ n ih =>
    intro x2 x3 x4 h
    rw [f_X8_halls_108]
    refine g_iload (pc := 108) C 3 rfl dX8_halls_108 ?_
    refine g_iload_n (pc := 110) C 1 rfl dX8_halls_110 rfl ?_
    refine g_icmp_gt (pc := 111) (tgt := 143) C dX8_halls_111 (by decide) (fun hc13 => ?_) (fun hc13 => ?_)
    · refine g_iconst (pc := 143) (v := 3) C dX8_halls_143 kc_3 ?_
      refine g_istore (pc := 144) C dX8_halls_144 (by decide) (lv' := [(4, .int (3 : Int32)), (0, .ref (w.2.1 (147))), (2, .int x2), (3, .int x3)]) rfl ?_
      refine g_lv (lv' := [(0, .ref (w.2.1 (147))), (2, .int x2), (3, .int x3), (4, .int (3 : Int32))]) [1, 2, 3, 0] rfl ?_
      exact j_X8_halls_146 C KF x2 x3 (3 : Int32) h
    · refine g_aload_n (pc := 114) C 0 rfl dX8_halls_114 rfl ?_
      refine g_get (pc := 115) C so_RX8 23 fl_RX8_54 (v := .ref (w.2.1 (162))) rfl dX8_halls_115 ?_
      refine g_sipush (pc := 118) (v := 164) C dX8_halls_118 ks_164 ?_
      refine g_iload (pc := 121) C 3 rfl dX8_halls_121 ?_
      refine g_iadd (pc := 123) C dX8_halls_123 ?_
      refine g_iload (pc := 124) C 3 rfl dX8_halls_124 ?_
      refine g_if_ne (pc := 126) (tgt := 133) C dX8_halls_126 (by decide) (fun hc46 => ?_) (fun hc46 => ?_)
      · refine g_iconst (pc := 129) (v := 0) C dX8_halls_129 kc_0 ?_
        refine g_goto (pc := 130) (tgt := 136) C dX8_halls_130 (by decide) ?_
        exact j_X8_halls_136 C ih x2 x3 x4 (0 : Int32) ((164 : Int32) + x4) h
      · refine g_ldcw (pc := 133) C wd_RX8_283 dX8_halls_133 ?_
        exact j_X8_halls_136 C ih x2 x3 x4 (1000000 : Int32) ((164 : Int32) + x4) h
def f_X8_halls_98  (k51 : Int32 → Int32 → Int32 → Int32 → TT → Option (Int32 × TT)) (x1 : Int32) (x2 : Int32) (x3 : Int32) (x4 : Int32) (xs0 : Int32) (xs1 : Int32) (h : TT) : Option (Int32 × TT) := if inb xs1 4 = true then nm (wr h 163 xs1.toNatClampNeg (vp_nar .boolean xs0)) fun h52 => k51 x1 x2 x3 (x4 + (1 : Int32)) h52 else none
set_option maxRecDepth 20000 in
theorem j_X8_halls_98 {p : Program} {l : Launch} {e : Env} {R : Room} {s : State} {m : MethodId} {args : Array Value} {below : List Frame} {meth : Method} {c : Code} {w : WK} (C : CX p R s m args meth c w RX8 cX8_halls 8 (some .int) 12 264)    {k51 : Int32 → Int32 → Int32 → Int32 → TT → Option (Int32 × TT)} (hk51 : ∀ (x1 : Int32) (x2 : Int32) (x3 : Int32) (x4 : Int32)  (h : TT), GO p l e R s m args below meth c w 8 fIT (k51 x1 x2 x3 x4 h) 51 [(0, .ref (w.2.1 (147))), (1, .int x1), (2, .int x2), (3, .int x3), (4, .int x4)] [] h) (x1 : Int32) (x2 : Int32) (x3 : Int32) (x4 : Int32) (xs0 : Int32) (xs1 : Int32)  (h : TT) : GO p l e R s m args below meth c w 8 fIT (f_X8_halls_98 k51 x1 x2 x3 x4 xs0 xs1 h) 98 [(0, .ref (w.2.1 (147))), (1, .int x1), (2, .int x2), (3, .int x3), (4, .int x4)] [.int xs0, .int xs1, .ref (w.2.1 (163))] h := by
  unfold f_X8_halls_98
  refine g_zast (pc := 98) C sz_163 dX8_halls_98 (fun hb51 => ?_)
  refine g_nm (fun h52 => ?_)
  refine g_iinc (pc := 99) C 4 rfl dX8_halls_99 (ki_1 _) (by decide) (lv' := [(4, .int (x4 + (1 : Int32))), (0, .ref (w.2.1 (147))), (1, .int x1), (2, .int x2), (3, .int x3)]) rfl ?_
  refine g_goto (pc := 102) (tgt := 51) C dX8_halls_102 (by decide) ?_
  refine g_lv (lv' := [(0, .ref (w.2.1 (147))), (1, .int x1), (2, .int x2), (3, .int x3), (4, .int (x4 + (1 : Int32)))]) [1, 2, 3, 4, 0] rfl ?_
  exact hk51 x1 x2 x3 (x4 + (1 : Int32)) h52
def f_X8_halls_97  (k51 : Int32 → Int32 → Int32 → Int32 → TT → Option (Int32 × TT)) (x1 : Int32) (x2 : Int32) (x3 : Int32) (x4 : Int32) (xs0 : Int32) (h : TT) : Option (Int32 × TT) := f_X8_halls_98 k51 x1 x2 x3 x4 (0 : Int32) xs0 h
set_option maxRecDepth 20000 in
theorem j_X8_halls_97 {p : Program} {l : Launch} {e : Env} {R : Room} {s : State} {m : MethodId} {args : Array Value} {below : List Frame} {meth : Method} {c : Code} {w : WK} (C : CX p R s m args meth c w RX8 cX8_halls 8 (some .int) 12 264)    {k51 : Int32 → Int32 → Int32 → Int32 → TT → Option (Int32 × TT)} (hk51 : ∀ (x1 : Int32) (x2 : Int32) (x3 : Int32) (x4 : Int32)  (h : TT), GO p l e R s m args below meth c w 8 fIT (k51 x1 x2 x3 x4 h) 51 [(0, .ref (w.2.1 (147))), (1, .int x1), (2, .int x2), (3, .int x3), (4, .int x4)] [] h) (x1 : Int32) (x2 : Int32) (x3 : Int32) (x4 : Int32) (xs0 : Int32)  (h : TT) : GO p l e R s m args below meth c w 8 fIT (f_X8_halls_97 k51 x1 x2 x3 x4 xs0 h) 97 [(0, .ref (w.2.1 (147))), (1, .int x1), (2, .int x2), (3, .int x3), (4, .int x4)] [.int xs0, .ref (w.2.1 (163))] h := by
  unfold f_X8_halls_97
  refine g_iconst (pc := 97) (v := 0) C dX8_halls_97 kc_0 ?_
  exact j_X8_halls_98 C hk51 x1 x2 x3 x4 (0 : Int32) xs0 h
def f_X8_halls_51   : Nat → Int32 → Int32 → Int32 → Int32 → TT → Option (Int32 × TT)
  | 0, _, _, _, _, _ => none
  | n + 1, x1, x2, x3, x4, h => (if (4 : Int32) ≤ x4 then f_X8_halls_108 KF x2 x3 (0 : Int32) h else if inb x4 4 = true then (if (h.1 156 x4.toNatClampNeg) = 0 then f_X8_halls_97 (f_X8_halls_51 n) x1 x2 x3 x4 x4 h else (f_X8_planPlaces h x4).bind fun r53 => (if r53 ≤ 0 then f_X8_halls_97 (f_X8_halls_51 n) x1 x2 x3 x4 x4 h else (f_X8_stands h x1 x4 (1 : Int32)).bind fun q55 => (if q55.1 = 0 then f_X8_halls_97 (f_X8_halls_51 n) x1 x2 x3 x4 x4 q55.2 else f_X8_halls_98 (f_X8_halls_51 n) x1 x2 x3 x4 (1 : Int32) x4 q55.2))) else none)
set_option maxRecDepth 20000 in
theorem j_X8_halls_51 {p : Program} {l : Launch} {e : Env} {R : Room} {s : State} {m : MethodId} {args : Array Value} {below : List Frame} {meth : Method} {c : Code} {w : WK} (C : CX p R s m args meth c w RX8 cX8_halls 8 (some .int) 12 264)     : ∀ (n : Nat) (x1 : Int32) (x2 : Int32) (x3 : Int32) (x4 : Int32) (h : TT), GO p l e R s m args below meth c w 8 fIT (f_X8_halls_51 n x1 x2 x3 x4 h) 51 [(0, .ref (w.2.1 (147))), (1, .int x1), (2, .int x2), (3, .int x3), (4, .int x4)] [] h := by
  intro n
  induction n with
  | zero =>
    intro x1 x2 x3 x4 h
    exact g_none
  | succ n ih =>
    intro x1 x2 x3 x4 h
    rw [f_X8_halls_51]
    refine g_iload (pc := 51) C 4 rfl dX8_halls_51 ?_
    refine g_iconst (pc := 53) (v := 4) C dX8_halls_53 kc_4 ?_
    refine g_icmp_ge (pc := 54) (tgt := 105) C dX8_halls_54 (by decide) (fun hc12 => ?_) (fun hc12 => ?_)
    · refine g_iconst (pc := 105) (v := 0) C dX8_halls_105 kc_0 ?_
      refine g_istore (pc := 106) C dX8_halls_106 (by decide) (lv' := [(4, .int (0 : Int32)), (0, .ref (w.2.1 (147))), (1, .int x1), (2, .int x2), (3, .int x3)]) rfl ?_
      refine g_lv (lv' := [(0, .ref (w.2.1 (147))), (2, .int x2), (3, .int x3), (4, .int (0 : Int32))]) [1, 3, 4, 0] rfl ?_
      exact j_X8_halls_108 C KF x2 x3 (0 : Int32) h
    · refine g_aload_n (pc := 57) C 0 rfl dX8_halls_57 rfl ?_
      refine g_get (pc := 58) C so_RX8 24 fl_RX8_57 (v := .ref (w.2.1 (163))) rfl dX8_halls_58 ?_
      refine g_iload (pc := 61) C 4 rfl dX8_halls_61 ?_
      refine g_aload_n (pc := 63) C 0 rfl dX8_halls_63 rfl ?_
      refine g_get (pc := 64) C so_RX8 12 fl_RX8_36 (v := .ref (w.2.1 (156))) rfl dX8_halls_64 ?_
      refine g_iload (pc := 67) C 4 rfl dX8_halls_67 ?_
      refine g_zald (pc := 69) C sz_156 dX8_halls_69 (fun hb49 => ?_)
      refine g_if_eq (pc := 70) (tgt := 97) C dX8_halls_70 (by decide) (fun hc50 => ?_) (fun hc50 => ?_)
      · exact j_X8_halls_97 C ih x1 x2 x3 x4 x4 h
      · refine g_aload_n (pc := 73) C 0 rfl dX8_halls_73 rfl ?_
        refine g_iload (pc := 74) C 4 rfl dX8_halls_74 ?_
        refine g_callI (pc := 76) (rest := [.int x4, .ref (w.2.1 (163))]) (g_runV C mv_RX8_142 (fun x1 hx1 => m_X8_planPlaces hx1) so_RX8 rfl (by decide) rfl rfl (Nat.le_of_ble_eq_true rfl) dX8_halls_76) (fun r53 => ?_)
        refine g_if_le (pc := 79) (tgt := 97) C dX8_halls_79 (by decide) (fun hc54 => ?_) (fun hc54 => ?_)
        · exact j_X8_halls_97 C ih x1 x2 x3 x4 x4 h
        · refine g_aload_n (pc := 82) C 0 rfl dX8_halls_82 rfl ?_
          refine g_iload_n (pc := 83) C 1 rfl dX8_halls_83 rfl ?_
          refine g_iload (pc := 84) C 4 rfl dX8_halls_84 ?_
          refine g_iconst (pc := 86) (v := 1) C dX8_halls_86 kc_1 ?_
          refine g_callIT (pc := 87) (rest := [.int x4, .ref (w.2.1 (163))]) (g_runV C mv_RX8_280 (fun x1 hx1 => m_X8_stands hx1) so_RX8 rfl (by decide) rfl rfl (Nat.le_of_ble_eq_true rfl) dX8_halls_87) (fun q55 => ?_)
          refine g_if_eq (pc := 90) (tgt := 97) C dX8_halls_90 (by decide) (fun hc56 => ?_) (fun hc56 => ?_)
          · exact j_X8_halls_97 C ih x1 x2 x3 x4 x4 q55.2
          · refine g_iconst (pc := 93) (v := 1) C dX8_halls_93 kc_1 ?_
            refine g_goto (pc := 94) (tgt := 98) C dX8_halls_94 (by decide) ?_
            exact j_X8_halls_98 C ih x1 x2 x3 x4 (1 : Int32) x4 q55.2
def f_X8_halls (h : TT) (x1 : Int32) (x2 : Int32) (x3 : Int32) : Option (Int32 × TT) := (f_X8_isPlace h x1).bind fun r1 => (if r1 = 0 then some ((-1 : Int32), h) else (f_X8_in h x2 (1 : Int32) (40 : Int32)).bind fun r3 => (if r3 = 0 then some ((-1 : Int32), h) else (f_X8_isRow h x3).bind fun r5 => (if r5 = 0 then some ((-1 : Int32), h) else if inb x1 4 = true then (if (h.1 154 x1.toNatClampNeg) = 0 then f_X8_halls_42 h else (f_X8_isAnyPlan h).bind fun r10 => (if r10 = 0 then f_X8_halls_42 h else f_X8_halls_51 KF x1 x2 x3 (0 : Int32) h)) else none)))
set_option maxRecDepth 20000 in
theorem m_X8_halls {l : Launch} {w : WK} {h : TT} {x1 : Int32} {x2 : Int32} {x3 : Int32} {x : (Int32 × TT)} (hx : f_X8_halls h x1 x2 x3 = some x)  : Met l yX8_halls (Cond.code yX8_halls cX8_halls 8 (some .int) :: wsG) { frames := 12, cells := 0, slots := 0, locals := 264 } (PG w [.ref (w.2.1 (147)), .int x1, .int x2, .int x3] h) (QG w (fIT x)) 0 0 (AA w) := by
  refine m_entry (own := RX8) (f := fIT) hx (by decide) rfl (Nat.le_of_ble_eq_true rfl) (fun p e s m args below meth c C => ?_)
  show GO p l e _ s m args below meth c w 8 fIT (f_X8_halls h x1 x2 x3) 0 [(0, .ref (w.2.1 (147))), (1, .int x1), (2, .int x2), (3, .int x3)] [] h
  unfold f_X8_halls
  refine g_iload_n (pc := 0) C 1 rfl dX8_halls_0 rfl ?_
  refine g_callI (pc := 1) (rest := []) (g_runS C ms_RX8_136 (fun x1 hx1 => m_X8_isPlace hx1) (by decide) rfl rfl (Nat.le_of_ble_eq_true rfl) dX8_halls_1) (fun r1 => ?_)
  refine g_if_eq (pc := 4) (tgt := 24) C dX8_halls_4 (by decide) (fun hc2 => ?_) (fun hc2 => ?_)
  · refine g_iconst (pc := 24) (v := -1) C dX8_halls_24 kc_m1 ?_
    exact g_iretT C dX8_halls_25
  · refine g_iload_n (pc := 7) C 2 rfl dX8_halls_7 rfl ?_
    refine g_iconst (pc := 8) (v := 1) C dX8_halls_8 kc_1 ?_
    refine g_bipush (pc := 9) (v := 40) C dX8_halls_9 kb_40 ?_
    refine g_callI (pc := 11) (rest := []) (g_runS C ms_RX8_71 (fun x1 hx1 => m_X8_in hx1) (by decide) rfl rfl (Nat.le_of_ble_eq_true rfl) dX8_halls_11) (fun r3 => ?_)
    refine g_if_eq (pc := 14) (tgt := 24) C dX8_halls_14 (by decide) (fun hc4 => ?_) (fun hc4 => ?_)
    · refine g_iconst (pc := 24) (v := -1) C dX8_halls_24 kc_m1 ?_
      exact g_iretT C dX8_halls_25
    · refine g_iload_n (pc := 17) C 3 rfl dX8_halls_17 rfl ?_
      refine g_callI (pc := 18) (rest := []) (g_runS C ms_RX8_81 (fun x1 hx1 => m_X8_isRow hx1) (by decide) rfl rfl (Nat.le_of_ble_eq_true rfl) dX8_halls_18) (fun r5 => ?_)
      refine g_if_ne (pc := 21) (tgt := 26) C dX8_halls_21 (by decide) (fun hc6 => ?_) (fun hc6 => ?_)
      · refine g_iconst (pc := 24) (v := -1) C dX8_halls_24 kc_m1 ?_
        exact g_iretT C dX8_halls_25
      · refine g_aload_n (pc := 26) C 0 rfl dX8_halls_26 rfl ?_
        refine g_get (pc := 27) C so_RX8 10 fl_RX8_29 (v := .ref (w.2.1 (154))) rfl dX8_halls_27 ?_
        refine g_iload_n (pc := 30) C 1 rfl dX8_halls_30 rfl ?_
        refine g_zald (pc := 31) C sz_154 dX8_halls_31 (fun hb7 => ?_)
        refine g_if_eq (pc := 32) (tgt := 42) C dX8_halls_32 (by decide) (fun hc8 => ?_) (fun hc8 => ?_)
        · refine g_lv (lv' := [(0, .ref (w.2.1 (147)))]) [0] rfl ?_
          exact j_X8_halls_42 C h
        · refine g_aload_n (pc := 35) C 0 rfl dX8_halls_35 rfl ?_
          refine g_callI (pc := 36) (rest := []) (g_runV C mv_RX8_273 (fun x1 hx1 => m_X8_isAnyPlan hx1) so_RX8 rfl (by decide) rfl rfl (Nat.le_of_ble_eq_true rfl) dX8_halls_36) (fun r10 => ?_)
          refine g_if_ne (pc := 39) (tgt := 48) C dX8_halls_39 (by decide) (fun hc11 => ?_) (fun hc11 => ?_)
          · refine g_lv (lv' := [(0, .ref (w.2.1 (147)))]) [0] rfl ?_
            exact j_X8_halls_42 C h
          · refine g_iconst (pc := 48) (v := 0) C dX8_halls_48 kc_0 ?_
            refine g_istore (pc := 49) C dX8_halls_49 (by decide) (lv' := [(4, .int (0 : Int32)), (0, .ref (w.2.1 (147))), (1, .int x1), (2, .int x2), (3, .int x3)]) rfl ?_
            refine g_lv (lv' := [(0, .ref (w.2.1 (147))), (1, .int x1), (2, .int x2), (3, .int x3), (4, .int (0 : Int32))]) [1, 2, 3, 4, 0] rfl ?_
            exact j_X8_halls_51 C KF x1 x2 x3 (0 : Int32) h
/-- SnowHouseModel.quarry(I)I -/
def f_X8_quarry (h : TT) (x1 : Int32) : Option (Int32 × TT) := (f_X8_isPlace h x1).bind fun r1 => (if r1 = 0 then some ((-1 : Int32), h) else if inb x1 4 = true then (if (h.1 156 x1.toNatClampNeg) = 0 then (f_X8_meets h (1 : Int32)).bind fun q5 => some (q5.1, q5.2) else if inb (((26 : Int32) * x1) + (3 : Int32)) 104 = true then nm (h.1 157 (((26 : Int32) * x1) + (3 : Int32)).toNatClampNeg) fun y7 => nm ((y7 * y7) / (4 : Int32)) fun y8 => (f_X8_planBlocks h x1).bind fun r9 => (f_X8_greater h (0 : Int32) (r9 - y8)).bind fun r10 => (f_X8_tellsBy h r10 y8).bind fun q11 => some (q11.1, q11.2) else none) else none)
set_option maxRecDepth 20000 in
theorem m_X8_quarry {l : Launch} {w : WK} {h : TT} {x1 : Int32} {x : (Int32 × TT)} (hx : f_X8_quarry h x1 = some x)  : Met l yX8_quarry (Cond.code yX8_quarry cX8_quarry 4 (some .int) :: wsG) { frames := 2, cells := 0, slots := 0, locals := 42 } (PG w [.ref (w.2.1 (147)), .int x1] h) (QG w (fIT x)) 0 0 (AA w) := by
  refine m_entry (own := RX8) (f := fIT) hx (by decide) rfl (Nat.le_of_ble_eq_true rfl) (fun p e s m args below meth c C => ?_)
  show GO p l e _ s m args below meth c w 4 fIT (f_X8_quarry h x1) 0 [(0, .ref (w.2.1 (147))), (1, .int x1)] [] h
  unfold f_X8_quarry
  refine g_iload_n (pc := 0) C 1 rfl dX8_quarry_0 rfl ?_
  refine g_callI (pc := 1) (rest := []) (g_runS C ms_RX8_136 (fun x1 hx1 => m_X8_isPlace hx1) (by decide) rfl rfl (Nat.le_of_ble_eq_true rfl) dX8_quarry_1) (fun r1 => ?_)
  refine g_if_ne (pc := 4) (tgt := 9) C dX8_quarry_4 (by decide) (fun hc2 => ?_) (fun hc2 => ?_)
  · refine g_iconst (pc := 7) (v := -1) C dX8_quarry_7 kc_m1 ?_
    exact g_iretT C dX8_quarry_8
  · refine g_aload_n (pc := 9) C 0 rfl dX8_quarry_9 rfl ?_
    refine g_get (pc := 10) C so_RX8 12 fl_RX8_36 (v := .ref (w.2.1 (156))) rfl dX8_quarry_10 ?_
    refine g_iload_n (pc := 13) C 1 rfl dX8_quarry_13 rfl ?_
    refine g_zald (pc := 14) C sz_156 dX8_quarry_14 (fun hb3 => ?_)
    refine g_if_ne (pc := 15) (tgt := 24) C dX8_quarry_15 (by decide) (fun hc4 => ?_) (fun hc4 => ?_)
    · refine g_aload_n (pc := 18) C 0 rfl dX8_quarry_18 rfl ?_
      refine g_iconst (pc := 19) (v := 1) C dX8_quarry_19 kc_1 ?_
      refine g_callIT (pc := 20) (rest := []) (g_runV C mv_RX8_85 (fun x1 hx1 => m_X8_meets hx1) so_RX8 rfl (by decide) rfl rfl (Nat.le_of_ble_eq_true rfl) dX8_quarry_20) (fun q5 => ?_)
      exact g_iretT C dX8_quarry_23
    · refine g_aload_n (pc := 24) C 0 rfl dX8_quarry_24 rfl ?_
      refine g_get (pc := 25) C so_RX8 13 fl_RX8_39 (v := .ref (w.2.1 (157))) rfl dX8_quarry_25 ?_
      refine g_bipush (pc := 28) (v := 26) C dX8_quarry_28 kb_26 ?_
      refine g_iload_n (pc := 30) C 1 rfl dX8_quarry_30 rfl ?_
      refine g_imul (pc := 31) C dX8_quarry_31 ?_
      refine g_iconst (pc := 32) (v := 3) C dX8_quarry_32 kc_3 ?_
      refine g_iadd (pc := 33) C dX8_quarry_33 ?_
      refine g_iald (pc := 34) C si_157 dX8_quarry_34 (fun hb6 => ?_)
      refine g_nmi (fun y7 => ?_)
      refine g_istore_n (pc := 35) C dX8_quarry_35 rfl (by decide) (lv' := [(2, .int y7), (0, .ref (w.2.1 (147))), (1, .int x1)]) rfl ?_
      refine g_iload_n (pc := 36) C 0 rfl dX8_quarry_36 rfl ?_
      refine g_iload_n (pc := 37) C 0 rfl dX8_quarry_37 rfl ?_
      refine g_imul (pc := 38) C dX8_quarry_38 ?_
      refine g_iconst (pc := 39) (v := 4) C dX8_quarry_39 kc_4 ?_
      refine g_idiv (pc := 40) C dX8_quarry_40 (by decide) ?_
      refine g_nmi (fun y8 => ?_)
      refine g_istore_n (pc := 41) C dX8_quarry_41 rfl (by decide) (lv' := [(3, .int y8), (2, .int y7), (0, .ref (w.2.1 (147))), (1, .int x1)]) rfl ?_
      refine g_aload_n (pc := 42) C 2 rfl dX8_quarry_42 rfl ?_
      refine g_iconst (pc := 43) (v := 0) C dX8_quarry_43 kc_0 ?_
      refine g_aload_n (pc := 44) C 2 rfl dX8_quarry_44 rfl ?_
      refine g_iload_n (pc := 45) C 3 rfl dX8_quarry_45 rfl ?_
      refine g_callI (pc := 46) (rest := [.int (0 : Int32), .ref (w.2.1 (147))]) (g_runV C mv_RX8_139 (fun x1 hx1 => m_X8_planBlocks hx1) so_RX8 rfl (by decide) rfl rfl (Nat.le_of_ble_eq_true rfl) dX8_quarry_46) (fun r9 => ?_)
      refine g_iload_n (pc := 49) C 0 rfl dX8_quarry_49 rfl ?_
      refine g_isub (pc := 50) C dX8_quarry_50 ?_
      refine g_callI (pc := 51) (rest := [.ref (w.2.1 (147))]) (g_runS C ms_RX8_284 (fun x1 hx1 => m_X8_greater hx1) (by decide) rfl rfl (Nat.le_of_ble_eq_true rfl) dX8_quarry_51) (fun r10 => ?_)
      refine g_iload_n (pc := 54) C 0 rfl dX8_quarry_54 rfl ?_
      refine g_callIT (pc := 55) (rest := []) (g_runV C mv_RX8_93 (fun x1 hx1 => m_X8_tellsBy hx1) so_RX8 rfl (by decide) rfl rfl (Nat.le_of_ble_eq_true rfl) dX8_quarry_55) (fun q11 => ?_)
      exact g_iretT C dX8_quarry_58
/-- SnowHouseModel.begin(I)V -/
def f_X8_begin_8   : Nat → Int32 → Int32 → TT → Option TT
  | 0, _, _, _ => none
  | n + 1, x1, x2, h => (if (6 : Int32) ≤ x2 then some h else if inb (((4 : Int32) * x1) + (2 : Int32)) 16 = true then if inb x2 6 = true then nm (wr h 164 x2.toNatClampNeg ((-10 : Int32) * (h.1 155 (((4 : Int32) * x1) + (2 : Int32)).toNatClampNeg))) fun h5 => f_X8_begin_8 n x1 (x2 + (1 : Int32)) h5 else none else none)
set_option maxRecDepth 20000 in
theorem j_X8_begin_8 {p : Program} {l : Launch} {e : Env} {R : Room} {s : State} {m : MethodId} {args : Array Value} {below : List Frame} {meth : Method} {c : Code} {w : WK} (C : CX p R s m args meth c w RX8 cX8_begin 3 none 0 0)     : ∀ (n : Nat) (x1 : Int32) (x2 : Int32) (h : TT), GO p l e R s m args below meth c w 3 fV (f_X8_begin_8 n x1 x2 h) 8 [(0, .ref (w.2.1 (147))), (1, .int x1), (2, .int x2)] [] h := by
  intro n
  induction n with
  | zero =>
    intro x1 x2 h
    exact g_none
  | succ n ih =>
    intro x1 x2 h
    rw [f_X8_begin_8]
    refine g_iload_n (pc := 8) C 2 rfl dX8_begin_8 rfl ?_
    refine g_bipush (pc := 9) (v := 6) C dX8_begin_9 kb_6 ?_
    refine g_icmp_ge (pc := 11) (tgt := 39) C dX8_begin_11 (by decide) (fun hc2 => ?_) (fun hc2 => ?_)
    · exact g_vret C dX8_begin_39
    · refine g_aload_n (pc := 14) C 0 rfl dX8_begin_14 rfl ?_
      refine g_get (pc := 15) C so_RX8 25 fl_RX8_60 (v := .ref (w.2.1 (164))) rfl dX8_begin_15 ?_
      refine g_iload_n (pc := 18) C 2 rfl dX8_begin_18 rfl ?_
      refine g_bipush (pc := 19) (v := -10) C dX8_begin_19 kb_m10 ?_
      refine g_aload_n (pc := 21) C 0 rfl dX8_begin_21 rfl ?_
      refine g_get (pc := 22) C so_RX8 11 fl_RX8_33 (v := .ref (w.2.1 (155))) rfl dX8_begin_22 ?_
      refine g_iconst (pc := 25) (v := 4) C dX8_begin_25 kc_4 ?_
      refine g_iload_n (pc := 26) C 1 rfl dX8_begin_26 rfl ?_
      refine g_imul (pc := 27) C dX8_begin_27 ?_
      refine g_iconst (pc := 28) (v := 2) C dX8_begin_28 kc_2 ?_
      refine g_iadd (pc := 29) C dX8_begin_29 ?_
      refine g_iald (pc := 30) C si_155 dX8_begin_30 (fun hb3 => ?_)
      refine g_imul (pc := 31) C dX8_begin_31 ?_
      refine g_iast (pc := 32) C si_164 dX8_begin_32 (fun hb4 => ?_)
      refine g_nm (fun h5 => ?_)
      refine g_iinc (pc := 33) C 2 rfl dX8_begin_33 (ki_1 _) (by decide) (lv' := [(2, .int (x2 + (1 : Int32))), (0, .ref (w.2.1 (147))), (1, .int x1)]) rfl ?_
      refine g_goto (pc := 36) (tgt := 8) C dX8_begin_36 (by decide) ?_
      refine g_lv (lv' := [(0, .ref (w.2.1 (147))), (1, .int x1), (2, .int (x2 + (1 : Int32)))]) [1, 2, 0] rfl ?_
      exact ih x1 (x2 + (1 : Int32)) h5
def f_X8_begin (h : TT) (x1 : Int32) : Option TT := nm (wr h 147 26 (100 : Int32)) fun h1 => f_X8_begin_8 KF x1 (0 : Int32) h1
set_option maxRecDepth 20000 in
theorem m_X8_begin {l : Launch} {w : WK} {h : TT} {x1 : Int32} {x : TT} (hx : f_X8_begin h x1 = some x)  : Met l yX8_begin (Cond.code yX8_begin cX8_begin 3 none :: wsG) { frames := 0, cells := 0, slots := 0, locals := 0 } (PG w [.ref (w.2.1 (147)), .int x1] h) (QG w (fV x)) 0 0 (AA w) := by
  refine m_entry (own := RX8) (f := fV) hx (by decide) rfl (Nat.le_of_ble_eq_true rfl) (fun p e s m args below meth c C => ?_)
  show GO p l e _ s m args below meth c w 3 fV (f_X8_begin h x1) 0 [(0, .ref (w.2.1 (147))), (1, .int x1)] [] h
  unfold f_X8_begin
  refine g_aload_n (pc := 0) C 0 rfl dX8_begin_0 rfl ?_
  refine g_bipush (pc := 1) (v := 100) C dX8_begin_1 kb_100 ?_
  refine g_putI (pc := 3) C so_RX8 26 fp_RX8_287 (se_RX8_26 _) rfl rfl (sl_RX8_26) dX8_begin_3 ?_
  refine g_nm (fun h1 => ?_)
  refine g_iconst (pc := 6) (v := 0) C dX8_begin_6 kc_0 ?_
  refine g_istore_n (pc := 7) C dX8_begin_7 rfl (by decide) (lv' := [(2, .int (0 : Int32)), (0, .ref (w.2.1 (147))), (1, .int x1)]) rfl ?_
  refine g_lv (lv' := [(0, .ref (w.2.1 (147))), (1, .int x1), (2, .int (0 : Int32))]) [1, 2, 0] rfl ?_
  exact j_X8_begin_8 C KF x1 (0 : Int32) h1
/-- SnowHouseModel.hour(IIIIZ)V -/
def f_X8_hour_248   (xs0 : Int32) (xs1 : Int32) (xs2 : Int32) (h : TT) : Option TT := nm (wr h 147 26 (xs2 + (xs1 + xs0))) fun h21 => (f_X8_lesser h21 (100 : Int32) (h21.1 147 26)).bind fun r22 => (f_X8_greater h21 (0 : Int32) r22).bind fun r23 => nm (wr h21 147 26 r23) fun h24 => some h24
set_option maxRecDepth 20000 in
theorem j_X8_hour_248 {p : Program} {l : Launch} {e : Env} {R : Room} {s : State} {m : MethodId} {args : Array Value} {below : List Frame} {meth : Method} {c : Code} {w : WK} (C : CX p R s m args meth c w RX8 cX8_hour 9 none 1 21)     (xs0 : Int32) (xs1 : Int32) (xs2 : Int32)  (h : TT) : GO p l e R s m args below meth c w 9 fV (f_X8_hour_248 xs0 xs1 xs2 h) 248 [(0, .ref (w.2.1 (147)))] [.int xs0, .int xs1, .int xs2, .ref (w.2.1 (147))] h := by
  unfold f_X8_hour_248
  refine g_iadd (pc := 248) C dX8_hour_248 ?_
  refine g_iadd (pc := 249) C dX8_hour_249 ?_
  refine g_putI (pc := 250) C so_RX8 26 fp_RX8_287 (se_RX8_26 _) rfl rfl (sl_RX8_26) dX8_hour_250 ?_
  refine g_nm (fun h21 => ?_)
  refine g_aload_n (pc := 253) C 0 rfl dX8_hour_253 rfl ?_
  refine g_iconst (pc := 254) (v := 0) C dX8_hour_254 kc_0 ?_
  refine g_bipush (pc := 255) (v := 100) C dX8_hour_255 kb_100 ?_
  refine g_aload_n (pc := 257) C 0 rfl dX8_hour_257 rfl ?_
  refine g_get (pc := 258) C so_RX8 26 fl_RX8_287 (v := .int (h21.1 147 26)) rfl dX8_hour_258 ?_
  refine g_callI (pc := 261) (rest := [.int (0 : Int32), .ref (w.2.1 (147))]) (g_runS C ms_RX8_203 (fun x1 hx1 => m_X8_lesser hx1) (by decide) rfl rfl (Nat.le_of_ble_eq_true rfl) dX8_hour_261) (fun r22 => ?_)
  refine g_callI (pc := 264) (rest := [.ref (w.2.1 (147))]) (g_runS C ms_RX8_284 (fun x1 hx1 => m_X8_greater hx1) (by decide) rfl rfl (Nat.le_of_ble_eq_true rfl) dX8_hour_264) (fun r23 => ?_)
  refine g_putI (pc := 267) C so_RX8 26 fp_RX8_287 (se_RX8_26 _) rfl rfl (sl_RX8_26) dX8_hour_267 ?_
  refine g_nm (fun h24 => ?_)
  exact g_vret C dX8_hour_270
def f_X8_hour_223   (x2 : Int32) (x3 : Int32) (x4 : Int32) (x5 : Int32) (h : TT) : Option TT := (if x5 = 0 then f_X8_hour_248 (2 : Int32) ((((3 : Int32) * x4) - ((2 : Int32) * x3)) - x2) (h.1 147 26) h else f_X8_hour_248 (0 : Int32) ((((3 : Int32) * x4) - ((2 : Int32) * x3)) - x2) (h.1 147 26) h)
set_option maxRecDepth 20000 in
theorem j_X8_hour_223 {p : Program} {l : Launch} {e : Env} {R : Room} {s : State} {m : MethodId} {args : Array Value} {below : List Frame} {meth : Method} {c : Code} {w : WK} (C : CX p R s m args meth c w RX8 cX8_hour 9 none 1 21)     (x2 : Int32) (x3 : Int32) (x4 : Int32) (x5 : Int32)  (h : TT) : GO p l e R s m args below meth c w 9 fV (f_X8_hour_223 x2 x3 x4 x5 h) 223 [(0, .ref (w.2.1 (147))), (2, .int x2), (3, .int x3), (4, .int x4), (5, .int x5)] [] h := by
  unfold f_X8_hour_223
  refine g_aload_n (pc := 223) C 0 rfl dX8_hour_223 rfl ?_
  refine g_dup (pc := 224) C dX8_hour_224 rfl ?_
  refine g_get (pc := 225) C so_RX8 26 fl_RX8_287 (v := .int (h.1 147 26)) rfl dX8_hour_225 ?_
  refine g_iconst (pc := 228) (v := 3) C dX8_hour_228 kc_3 ?_
  refine g_iload (pc := 229) C 3 rfl dX8_hour_229 ?_
  refine g_imul (pc := 231) C dX8_hour_231 ?_
  refine g_iconst (pc := 232) (v := 2) C dX8_hour_232 kc_2 ?_
  refine g_iload_n (pc := 233) C 2 rfl dX8_hour_233 rfl ?_
  refine g_imul (pc := 234) C dX8_hour_234 ?_
  refine g_isub (pc := 235) C dX8_hour_235 ?_
  refine g_iload_n (pc := 236) C 1 rfl dX8_hour_236 rfl ?_
  refine g_isub (pc := 237) C dX8_hour_237 ?_
  refine g_iload (pc := 238) C 4 rfl dX8_hour_238 ?_
  refine g_if_eq (pc := 240) (tgt := 247) C dX8_hour_240 (by decide) (fun hc20 => ?_) (fun hc20 => ?_)
  · refine g_iconst (pc := 247) (v := 2) C dX8_hour_247 kc_2 ?_
    refine g_lv (lv' := [(0, .ref (w.2.1 (147)))]) [0] rfl ?_
    exact j_X8_hour_248 C (2 : Int32) ((((3 : Int32) * x4) - ((2 : Int32) * x3)) - x2) (h.1 147 26) h
  · refine g_iconst (pc := 243) (v := 0) C dX8_hour_243 kc_0 ?_
    refine g_goto (pc := 244) (tgt := 248) C dX8_hour_244 (by decide) ?_
    refine g_lv (lv' := [(0, .ref (w.2.1 (147)))]) [0] rfl ?_
    exact j_X8_hour_248 C (0 : Int32) ((((3 : Int32) * x4) - ((2 : Int32) * x3)) - x2) (h.1 147 26) h
def f_X8_hour_130   : Nat → Int32 → Int32 → Int32 → Int32 → Int32 → Int32 → TT → Option TT
  | 0, _, _, _, _, _, _, _ => none
  | n + 1, x2, x3, x4, x5, x6, x7, h => (if (6 : Int32) ≤ x7 then if inb (5 : Int32) 6 = true then if inb (5 : Int32) 6 = true then if inb (5 : Int32) 6 = true then nm (wr h 164 (5 : Int32).toNatClampNeg ((h.1 164 (5 : Int32).toNatClampNeg) - ((((h.1 164 (5 : Int32).toNatClampNeg) - x6) * x4) / (20 : Int32)))) fun h12 => (if x5 = 0 then if inb (0 : Int32) 6 = true then nm (wr h12 164 (0 : Int32).toNatClampNeg x6) fun h15 => if inb (1 : Int32) 6 = true then if inb (1 : Int32) 6 = true then if inb (1 : Int32) 6 = true then nm (wr h15 164 (1 : Int32).toNatClampNeg ((h15.1 164 (1 : Int32).toNatClampNeg) - (((h15.1 164 (1 : Int32).toNatClampNeg) - x6) / (2 : Int32)))) fun h19 => f_X8_hour_223 x2 x3 x4 x5 h19 else none else none else none else none else f_X8_hour_223 x2 x3 x4 x5 h12) else none else none else none else if inb x7 6 = true then if inb x7 6 = true then if inb x7 6 = true then nm (wr h 164 x7.toNatClampNeg ((h.1 164 x7.toNatClampNeg) - (((h.1 164 x7.toNatClampNeg) - x6) / (10 : Int32)))) fun h28 => f_X8_hour_130 n x2 x3 x4 x5 x6 (x7 + (1 : Int32)) h28 else none else none else none)
set_option maxRecDepth 20000 in
theorem j_X8_hour_130 {p : Program} {l : Launch} {e : Env} {R : Room} {s : State} {m : MethodId} {args : Array Value} {below : List Frame} {meth : Method} {c : Code} {w : WK} (C : CX p R s m args meth c w RX8 cX8_hour 9 none 1 21)     : ∀ (n : Nat) (x2 : Int32) (x3 : Int32) (x4 : Int32) (x5 : Int32) (x6 : Int32) (x7 : Int32) (h : TT), GO p l e R s m args below meth c w 9 fV (f_X8_hour_130 n x2 x3 x4 x5 x6 x7 h) 130 [(0, .ref (w.2.1 (147))), (2, .int x2), (3, .int x3), (4, .int x4), (5, .int x5), (6, .int x6), (7, .int x7)] [] h := by
  intro n
  induction n with
  | zero =>
    intro x2 x3 x4 x5 x6 x7 h
    exact g_none
  | succ n ih =>
    intro x2 x3 x4 x5 x6 x7 h
    rw [f_X8_hour_130]
    refine g_iload (pc := 130) C 6 rfl dX8_hour_130 ?_
    refine g_bipush (pc := 132) (v := 6) C dX8_hour_132 kb_6 ?_
    refine g_icmp_ge (pc := 134) (tgt := 166) C dX8_hour_134 (by decide) (fun hc8 => ?_) (fun hc8 => ?_)
    · refine g_aload_n (pc := 166) C 0 rfl dX8_hour_166 rfl ?_
      refine g_get (pc := 167) C so_RX8 25 fl_RX8_60 (v := .ref (w.2.1 (164))) rfl dX8_hour_167 ?_
      refine g_iconst (pc := 170) (v := 5) C dX8_hour_170 kc_5 ?_
      refine g_dup2 (pc := 171) C dX8_hour_171 rfl rfl ?_
      refine g_iald (pc := 172) C si_164 dX8_hour_172 (fun hb9 => ?_)
      refine g_aload_n (pc := 173) C 0 rfl dX8_hour_173 rfl ?_
      refine g_get (pc := 174) C so_RX8 25 fl_RX8_60 (v := .ref (w.2.1 (164))) rfl dX8_hour_174 ?_
      refine g_iconst (pc := 177) (v := 5) C dX8_hour_177 kc_5 ?_
      refine g_iald (pc := 178) C si_164 dX8_hour_178 (fun hb10 => ?_)
      refine g_iload (pc := 179) C 5 rfl dX8_hour_179 ?_
      refine g_isub (pc := 181) C dX8_hour_181 ?_
      refine g_iload (pc := 182) C 3 rfl dX8_hour_182 ?_
      refine g_imul (pc := 184) C dX8_hour_184 ?_
      refine g_bipush (pc := 185) (v := 20) C dX8_hour_185 kb_20 ?_
      refine g_idiv (pc := 187) C dX8_hour_187 (by decide) ?_
      refine g_isub (pc := 188) C dX8_hour_188 ?_
      refine g_iast (pc := 189) C si_164 dX8_hour_189 (fun hb11 => ?_)
      refine g_nm (fun h12 => ?_)
      refine g_iload (pc := 190) C 4 rfl dX8_hour_190 ?_
      refine g_if_ne (pc := 192) (tgt := 223) C dX8_hour_192 (by decide) (fun hc13 => ?_) (fun hc13 => ?_)
      · refine g_aload_n (pc := 195) C 0 rfl dX8_hour_195 rfl ?_
        refine g_get (pc := 196) C so_RX8 25 fl_RX8_60 (v := .ref (w.2.1 (164))) rfl dX8_hour_196 ?_
        refine g_iconst (pc := 199) (v := 0) C dX8_hour_199 kc_0 ?_
        refine g_iload (pc := 200) C 5 rfl dX8_hour_200 ?_
        refine g_iast (pc := 202) C si_164 dX8_hour_202 (fun hb14 => ?_)
        refine g_nm (fun h15 => ?_)
        refine g_aload_n (pc := 203) C 0 rfl dX8_hour_203 rfl ?_
        refine g_get (pc := 204) C so_RX8 25 fl_RX8_60 (v := .ref (w.2.1 (164))) rfl dX8_hour_204 ?_
        refine g_iconst (pc := 207) (v := 1) C dX8_hour_207 kc_1 ?_
        refine g_dup2 (pc := 208) C dX8_hour_208 rfl rfl ?_
        refine g_iald (pc := 209) C si_164 dX8_hour_209 (fun hb16 => ?_)
        refine g_aload_n (pc := 210) C 0 rfl dX8_hour_210 rfl ?_
        refine g_get (pc := 211) C so_RX8 25 fl_RX8_60 (v := .ref (w.2.1 (164))) rfl dX8_hour_211 ?_
        refine g_iconst (pc := 214) (v := 1) C dX8_hour_214 kc_1 ?_
        refine g_iald (pc := 215) C si_164 dX8_hour_215 (fun hb17 => ?_)
        refine g_iload (pc := 216) C 5 rfl dX8_hour_216 ?_
        refine g_isub (pc := 218) C dX8_hour_218 ?_
        refine g_iconst (pc := 219) (v := 2) C dX8_hour_219 kc_2 ?_
        refine g_idiv (pc := 220) C dX8_hour_220 (by decide) ?_
        refine g_isub (pc := 221) C dX8_hour_221 ?_
        refine g_iast (pc := 222) C si_164 dX8_hour_222 (fun hb18 => ?_)
        refine g_nm (fun h19 => ?_)
        refine g_lv (lv' := [(0, .ref (w.2.1 (147))), (2, .int x2), (3, .int x3), (4, .int x4), (5, .int x5)]) [0, 1, 2, 3, 4] rfl ?_
        exact j_X8_hour_223 C x2 x3 x4 x5 h19
      · refine g_lv (lv' := [(0, .ref (w.2.1 (147))), (2, .int x2), (3, .int x3), (4, .int x4), (5, .int x5)]) [0, 1, 2, 3, 4] rfl ?_
        exact j_X8_hour_223 C x2 x3 x4 x5 h12
    · refine g_aload_n (pc := 137) C 0 rfl dX8_hour_137 rfl ?_
      refine g_get (pc := 138) C so_RX8 25 fl_RX8_60 (v := .ref (w.2.1 (164))) rfl dX8_hour_138 ?_
      refine g_iload (pc := 141) C 6 rfl dX8_hour_141 ?_
      refine g_dup2 (pc := 143) C dX8_hour_143 rfl rfl ?_
      refine g_iald (pc := 144) C si_164 dX8_hour_144 (fun hb25 => ?_)
      refine g_aload_n (pc := 145) C 0 rfl dX8_hour_145 rfl ?_
      refine g_get (pc := 146) C so_RX8 25 fl_RX8_60 (v := .ref (w.2.1 (164))) rfl dX8_hour_146 ?_
      refine g_iload (pc := 149) C 6 rfl dX8_hour_149 ?_
      refine g_iald (pc := 151) C si_164 dX8_hour_151 (fun hb26 => ?_)
      refine g_iload (pc := 152) C 5 rfl dX8_hour_152 ?_
      refine g_isub (pc := 154) C dX8_hour_154 ?_
      refine g_bipush (pc := 155) (v := 10) C dX8_hour_155 kb_10 ?_
      refine g_idiv (pc := 157) C dX8_hour_157 (by decide) ?_
      refine g_isub (pc := 158) C dX8_hour_158 ?_
      refine g_iast (pc := 159) C si_164 dX8_hour_159 (fun hb27 => ?_)
      refine g_nm (fun h28 => ?_)
      refine g_iinc (pc := 160) C 6 rfl dX8_hour_160 (ki_1 _) (by decide) (lv' := [(7, .int (x7 + (1 : Int32))), (0, .ref (w.2.1 (147))), (2, .int x2), (3, .int x3), (4, .int x4), (5, .int x5), (6, .int x6)]) rfl ?_
      refine g_goto (pc := 163) (tgt := 130) C dX8_hour_163 (by decide) ?_
      refine g_lv (lv' := [(0, .ref (w.2.1 (147))), (2, .int x2), (3, .int x3), (4, .int x4), (5, .int x5), (6, .int x6), (7, .int (x7 + (1 : Int32)))]) [1, 2, 3, 4, 5, 6, 0] rfl ?_
      exact ih x2 x3 x4 x5 x6 (x7 + (1 : Int32)) h28
def f_X8_hour_121  (k60 : Int32 → Int32 → Int32 → Int32 → Int32 → Int32 → TT → Option TT) (x2 : Int32) (x3 : Int32) (x4 : Int32) (x5 : Int32) (x6 : Int32) (x7 : Int32) (h : TT) : Option TT := k60 x2 x3 x4 x5 x6 (x7 + (1 : Int32)) h
set_option maxRecDepth 20000 in
theorem j_X8_hour_121 {p : Program} {l : Launch} {e : Env} {R : Room} {s : State} {m : MethodId} {args : Array Value} {below : List Frame} {meth : Method} {c : Code} {w : WK} (C : CX p R s m args meth c w RX8 cX8_hour 9 none 1 21)    {k60 : Int32 → Int32 → Int32 → Int32 → Int32 → Int32 → TT → Option TT} (hk60 : ∀ (x2 : Int32) (x3 : Int32) (x4 : Int32) (x5 : Int32) (x6 : Int32) (x7 : Int32)  (h : TT), GO p l e R s m args below meth c w 9 fV (k60 x2 x3 x4 x5 x6 x7 h) 60 [(0, .ref (w.2.1 (147))), (2, .int x2), (3, .int x3), (4, .int x4), (5, .int x5), (6, .int x6), (7, .int x7)] [] h) (x2 : Int32) (x3 : Int32) (x4 : Int32) (x5 : Int32) (x6 : Int32) (x7 : Int32)  (h : TT) : GO p l e R s m args below meth c w 9 fV (f_X8_hour_121 k60 x2 x3 x4 x5 x6 x7 h) 121 [(0, .ref (w.2.1 (147))), (2, .int x2), (3, .int x3), (4, .int x4), (5, .int x5), (6, .int x6), (7, .int x7)] [] h := by
  unfold f_X8_hour_121
  refine g_iinc (pc := 121) C 6 rfl dX8_hour_121 (ki_1 _) (by decide) (lv' := [(7, .int (x7 + (1 : Int32))), (0, .ref (w.2.1 (147))), (2, .int x2), (3, .int x3), (4, .int x4), (5, .int x5), (6, .int x6)]) rfl ?_
  refine g_goto (pc := 124) (tgt := 60) C dX8_hour_124 (by decide) ?_
  refine g_lv (lv' := [(0, .ref (w.2.1 (147))), (2, .int x2), (3, .int x3), (4, .int x4), (5, .int x5), (6, .int x6), (7, .int (x7 + (1 : Int32)))]) [1, 2, 3, 4, 5, 6, 0] rfl ?_
  exact hk60 x2 x3 x4 x5 x6 (x7 + (1 : Int32)) h
def f_X8_hour_60   : Nat → Int32 → Int32 → Int32 → Int32 → Int32 → Int32 → TT → Option TT
  | 0, _, _, _, _, _, _, _ => none
  | n + 1, x2, x3, x4, x5, x6, x7, h => (if (5 : Int32) ≤ x7 then f_X8_hour_130 KF x2 x3 x4 x5 x6 (0 : Int32) h else if inb x7 6 = true then if inb (x7 + (1 : Int32)) 6 = true then (if (h.1 164 x7.toNatClampNeg) ≤ (h.1 164 (x7 + (1 : Int32)).toNatClampNeg) then f_X8_hour_121 (f_X8_hour_60 n) x2 x3 x4 x5 x6 x7 h else if inb x7 6 = true then nm (h.1 164 x7.toNatClampNeg) fun y33 => if inb (x7 + (1 : Int32)) 6 = true then if inb x7 6 = true then nm (wr h 164 x7.toNatClampNeg (h.1 164 (x7 + (1 : Int32)).toNatClampNeg)) fun h36 => if inb (x7 + (1 : Int32)) 6 = true then nm (wr h36 164 (x7 + (1 : Int32)).toNatClampNeg y33) fun h38 => f_X8_hour_121 (f_X8_hour_60 n) x2 x3 x4 x5 x6 x7 h38 else none else none else none else none) else none else none)
set_option maxRecDepth 20000 in
theorem j_X8_hour_60 {p : Program} {l : Launch} {e : Env} {R : Room} {s : State} {m : MethodId} {args : Array Value} {below : List Frame} {meth : Method} {c : Code} {w : WK} (C : CX p R s m args meth c w RX8 cX8_hour 9 none 1 21)     : ∀ (n : Nat) (x2 : Int32) (x3 : Int32) (x4 : Int32) (x5 : Int32) (x6 : Int32) (x7 : Int32) (h : TT), GO p l e R s m args below meth c w 9 fV (f_X8_hour_60 n x2 x3 x4 x5 x6 x7 h) 60 [(0, .ref (w.2.1 (147))), (2, .int x2), (3, .int x3), (4, .int x4), (5, .int x5), (6, .int x6), (7, .int x7)] [] h := by
  intro n
  induction n with
  | zero =>
    intro x2 x3 x4 x5 x6 x7 h
    exact g_none
  | succ n ih =>
    intro x2 x3 x4 x5 x6 x7 h
    rw [f_X8_hour_60]
    refine g_iload (pc := 60) C 6 rfl dX8_hour_60 ?_
    refine g_iconst (pc := 62) (v := 5) C dX8_hour_62 kc_5 ?_
    refine g_icmp_ge (pc := 63) (tgt := 127) C dX8_hour_63 (by decide) (fun hc7 => ?_) (fun hc7 => ?_)
    · refine g_iconst (pc := 127) (v := 0) C dX8_hour_127 kc_0 ?_
      refine g_istore (pc := 128) C dX8_hour_128 (by decide) (lv' := [(7, .int (0 : Int32)), (0, .ref (w.2.1 (147))), (2, .int x2), (3, .int x3), (4, .int x4), (5, .int x5), (6, .int x6)]) rfl ?_
      refine g_lv (lv' := [(0, .ref (w.2.1 (147))), (2, .int x2), (3, .int x3), (4, .int x4), (5, .int x5), (6, .int x6), (7, .int (0 : Int32))]) [1, 2, 3, 4, 5, 6, 0] rfl ?_
      exact j_X8_hour_130 C KF x2 x3 x4 x5 x6 (0 : Int32) h
    · refine g_aload_n (pc := 66) C 0 rfl dX8_hour_66 rfl ?_
      refine g_get (pc := 67) C so_RX8 25 fl_RX8_60 (v := .ref (w.2.1 (164))) rfl dX8_hour_67 ?_
      refine g_iload (pc := 70) C 6 rfl dX8_hour_70 ?_
      refine g_iald (pc := 72) C si_164 dX8_hour_72 (fun hb29 => ?_)
      refine g_aload_n (pc := 73) C 0 rfl dX8_hour_73 rfl ?_
      refine g_get (pc := 74) C so_RX8 25 fl_RX8_60 (v := .ref (w.2.1 (164))) rfl dX8_hour_74 ?_
      refine g_iload (pc := 77) C 6 rfl dX8_hour_77 ?_
      refine g_iconst (pc := 79) (v := 1) C dX8_hour_79 kc_1 ?_
      refine g_iadd (pc := 80) C dX8_hour_80 ?_
      refine g_iald (pc := 81) C si_164 dX8_hour_81 (fun hb30 => ?_)
      refine g_icmp_le (pc := 82) (tgt := 121) C dX8_hour_82 (by decide) (fun hc31 => ?_) (fun hc31 => ?_)
      · exact j_X8_hour_121 C ih x2 x3 x4 x5 x6 x7 h
      · refine g_aload_n (pc := 85) C 0 rfl dX8_hour_85 rfl ?_
        refine g_get (pc := 86) C so_RX8 25 fl_RX8_60 (v := .ref (w.2.1 (164))) rfl dX8_hour_86 ?_
        refine g_iload (pc := 89) C 6 rfl dX8_hour_89 ?_
        refine g_iald (pc := 91) C si_164 dX8_hour_91 (fun hb32 => ?_)
        refine g_nmi (fun y33 => ?_)
        refine g_istore (pc := 92) C dX8_hour_92 (by decide) (lv' := [(8, .int y33), (0, .ref (w.2.1 (147))), (2, .int x2), (3, .int x3), (4, .int x4), (5, .int x5), (6, .int x6), (7, .int x7)]) rfl ?_
        refine g_aload_n (pc := 94) C 1 rfl dX8_hour_94 rfl ?_
        refine g_get (pc := 95) C so_RX8 25 fl_RX8_60 (v := .ref (w.2.1 (164))) rfl dX8_hour_95 ?_
        refine g_iload (pc := 98) C 7 rfl dX8_hour_98 ?_
        refine g_aload_n (pc := 100) C 1 rfl dX8_hour_100 rfl ?_
        refine g_get (pc := 101) C so_RX8 25 fl_RX8_60 (v := .ref (w.2.1 (164))) rfl dX8_hour_101 ?_
        refine g_iload (pc := 104) C 7 rfl dX8_hour_104 ?_
        refine g_iconst (pc := 106) (v := 1) C dX8_hour_106 kc_1 ?_
        refine g_iadd (pc := 107) C dX8_hour_107 ?_
        refine g_iald (pc := 108) C si_164 dX8_hour_108 (fun hb34 => ?_)
        refine g_iast (pc := 109) C si_164 dX8_hour_109 (fun hb35 => ?_)
        refine g_nm (fun h36 => ?_)
        refine g_aload_n (pc := 110) C 1 rfl dX8_hour_110 rfl ?_
        refine g_get (pc := 111) C so_RX8 25 fl_RX8_60 (v := .ref (w.2.1 (164))) rfl dX8_hour_111 ?_
        refine g_iload (pc := 114) C 7 rfl dX8_hour_114 ?_
        refine g_iconst (pc := 116) (v := 1) C dX8_hour_116 kc_1 ?_
        refine g_iadd (pc := 117) C dX8_hour_117 ?_
        refine g_iload (pc := 118) C 0 rfl dX8_hour_118 ?_
        refine g_iast (pc := 120) C si_164 dX8_hour_120 (fun hb37 => ?_)
        refine g_nm (fun h38 => ?_)
        refine g_lv (lv' := [(0, .ref (w.2.1 (147))), (2, .int x2), (3, .int x3), (4, .int x4), (5, .int x5), (6, .int x6), (7, .int x7)]) [1, 2, 3, 4, 5, 6, 7] rfl ?_
        exact j_X8_hour_121 C ih x2 x3 x4 x5 x6 x7 h38
def f_X8_hour_31   : Nat → Int32 → Int32 → Int32 → Int32 → Int32 → Int32 → TT → Option TT
  | 0, _, _, _, _, _, _, _ => none
  | n + 1, x2, x3, x4, x5, x6, x7, h => (if (3 : Int32) < x7 then f_X8_hour_60 KF x2 x3 x4 x5 x6 (0 : Int32) h else if inb x7 6 = true then if inb x7 6 = true then nm (wr h 164 x7.toNatClampNeg ((h.1 164 x7.toNatClampNeg) + ((10 : Int32) * x3))) fun h41 => f_X8_hour_31 n x2 x3 x4 x5 x6 (x7 + (1 : Int32)) h41 else none else none)
set_option maxRecDepth 20000 in
theorem j_X8_hour_31 {p : Program} {l : Launch} {e : Env} {R : Room} {s : State} {m : MethodId} {args : Array Value} {below : List Frame} {meth : Method} {c : Code} {w : WK} (C : CX p R s m args meth c w RX8 cX8_hour 9 none 1 21)     : ∀ (n : Nat) (x2 : Int32) (x3 : Int32) (x4 : Int32) (x5 : Int32) (x6 : Int32) (x7 : Int32) (h : TT), GO p l e R s m args below meth c w 9 fV (f_X8_hour_31 n x2 x3 x4 x5 x6 x7 h) 31 [(0, .ref (w.2.1 (147))), (2, .int x2), (3, .int x3), (4, .int x4), (5, .int x5), (6, .int x6), (7, .int x7)] [] h := by
  intro n
  induction n with
  | zero =>
    intro x2 x3 x4 x5 x6 x7 h
    exact g_none
  | succ n ih =>
    intro x2 x3 x4 x5 x6 x7 h
    rw [f_X8_hour_31]
    refine g_iload (pc := 31) C 6 rfl dX8_hour_31 ?_
    refine g_iconst (pc := 33) (v := 3) C dX8_hour_33 kc_3 ?_
    refine g_icmp_gt (pc := 34) (tgt := 57) C dX8_hour_34 (by decide) (fun hc6 => ?_) (fun hc6 => ?_)
    · refine g_iconst (pc := 57) (v := 0) C dX8_hour_57 kc_0 ?_
      refine g_istore (pc := 58) C dX8_hour_58 (by decide) (lv' := [(7, .int (0 : Int32)), (0, .ref (w.2.1 (147))), (2, .int x2), (3, .int x3), (4, .int x4), (5, .int x5), (6, .int x6)]) rfl ?_
      refine g_lv (lv' := [(0, .ref (w.2.1 (147))), (2, .int x2), (3, .int x3), (4, .int x4), (5, .int x5), (6, .int x6), (7, .int (0 : Int32))]) [1, 2, 3, 4, 5, 6, 0] rfl ?_
      exact j_X8_hour_60 C KF x2 x3 x4 x5 x6 (0 : Int32) h
    · refine g_aload_n (pc := 37) C 0 rfl dX8_hour_37 rfl ?_
      refine g_get (pc := 38) C so_RX8 25 fl_RX8_60 (v := .ref (w.2.1 (164))) rfl dX8_hour_38 ?_
      refine g_iload (pc := 41) C 6 rfl dX8_hour_41 ?_
      refine g_dup2 (pc := 43) C dX8_hour_43 rfl rfl ?_
      refine g_iald (pc := 44) C si_164 dX8_hour_44 (fun hb39 => ?_)
      refine g_bipush (pc := 45) (v := 10) C dX8_hour_45 kb_10 ?_
      refine g_iload_n (pc := 47) C 2 rfl dX8_hour_47 rfl ?_
      refine g_imul (pc := 48) C dX8_hour_48 ?_
      refine g_iadd (pc := 49) C dX8_hour_49 ?_
      refine g_iast (pc := 50) C si_164 dX8_hour_50 (fun hb40 => ?_)
      refine g_nm (fun h41 => ?_)
      refine g_iinc (pc := 51) C 6 rfl dX8_hour_51 (ki_1 _) (by decide) (lv' := [(7, .int (x7 + (1 : Int32))), (0, .ref (w.2.1 (147))), (2, .int x2), (3, .int x3), (4, .int x4), (5, .int x5), (6, .int x6)]) rfl ?_
      refine g_goto (pc := 54) (tgt := 31) C dX8_hour_54 (by decide) ?_
      refine g_lv (lv' := [(0, .ref (w.2.1 (147))), (2, .int x2), (3, .int x3), (4, .int x4), (5, .int x5), (6, .int x6), (7, .int (x7 + (1 : Int32)))]) [1, 2, 3, 4, 5, 6, 0] rfl ?_
      exact ih x2 x3 x4 x5 x6 (x7 + (1 : Int32)) h41
def f_X8_hour (h : TT) (x1 : Int32) (x2 : Int32) (x3 : Int32) (x4 : Int32) (x5 : Int32) : Option TT := if inb (((4 : Int32) * x1) + (2 : Int32)) 16 = true then nm ((-10 : Int32) * (h.1 155 (((4 : Int32) * x1) + (2 : Int32)).toNatClampNeg)) fun y2 => if inb (5 : Int32) 6 = true then if inb (5 : Int32) 6 = true then nm (wr h 164 (5 : Int32).toNatClampNeg ((h.1 164 (5 : Int32).toNatClampNeg) + ((20 : Int32) * x2))) fun h5 => f_X8_hour_31 KF x2 x3 x4 x5 y2 (1 : Int32) h5 else none else none else none
set_option maxRecDepth 20000 in
theorem m_X8_hour {l : Launch} {w : WK} {h : TT} {x1 : Int32} {x2 : Int32} {x3 : Int32} {x4 : Int32} {x5 : Int32} {x : TT} (hx : f_X8_hour h x1 x2 x3 x4 x5 = some x)  : Met l yX8_hour (Cond.code yX8_hour cX8_hour 9 none :: wsG) { frames := 1, cells := 0, slots := 0, locals := 21 } (PG w [.ref (w.2.1 (147)), .int x1, .int x2, .int x3, .int x4, .int x5] h) (QG w (fV x)) 0 0 (AA w) := by
  refine m_entry (own := RX8) (f := fV) hx (by decide) rfl (Nat.le_of_ble_eq_true rfl) (fun p e s m args below meth c C => ?_)
  show GO p l e _ s m args below meth c w 9 fV (f_X8_hour h x1 x2 x3 x4 x5) 0 [(0, .ref (w.2.1 (147))), (1, .int x1), (2, .int x2), (3, .int x3), (4, .int x4), (5, .int x5)] [] h
  unfold f_X8_hour
  refine g_bipush (pc := 0) (v := -10) C dX8_hour_0 kb_m10 ?_
  refine g_aload_n (pc := 2) C 0 rfl dX8_hour_2 rfl ?_
  refine g_get (pc := 3) C so_RX8 11 fl_RX8_33 (v := .ref (w.2.1 (155))) rfl dX8_hour_3 ?_
  refine g_iconst (pc := 6) (v := 4) C dX8_hour_6 kc_4 ?_
  refine g_iload_n (pc := 7) C 1 rfl dX8_hour_7 rfl ?_
  refine g_imul (pc := 8) C dX8_hour_8 ?_
  refine g_iconst (pc := 9) (v := 2) C dX8_hour_9 kc_2 ?_
  refine g_iadd (pc := 10) C dX8_hour_10 ?_
  refine g_iald (pc := 11) C si_155 dX8_hour_11 (fun hb1 => ?_)
  refine g_imul (pc := 12) C dX8_hour_12 ?_
  refine g_nmi (fun y2 => ?_)
  refine g_istore (pc := 13) C dX8_hour_13 (by decide) (lv' := [(6, .int y2), (0, .ref (w.2.1 (147))), (1, .int x1), (2, .int x2), (3, .int x3), (4, .int x4), (5, .int x5)]) rfl ?_
  refine g_aload_n (pc := 15) C 1 rfl dX8_hour_15 rfl ?_
  refine g_get (pc := 16) C so_RX8 25 fl_RX8_60 (v := .ref (w.2.1 (164))) rfl dX8_hour_16 ?_
  refine g_iconst (pc := 19) (v := 5) C dX8_hour_19 kc_5 ?_
  refine g_dup2 (pc := 20) C dX8_hour_20 rfl rfl ?_
  refine g_iald (pc := 21) C si_164 dX8_hour_21 (fun hb3 => ?_)
  refine g_bipush (pc := 22) (v := 20) C dX8_hour_22 kb_20 ?_
  refine g_iload_n (pc := 24) C 3 rfl dX8_hour_24 rfl ?_
  refine g_imul (pc := 25) C dX8_hour_25 ?_
  refine g_iadd (pc := 26) C dX8_hour_26 ?_
  refine g_iast (pc := 27) C si_164 dX8_hour_27 (fun hb4 => ?_)
  refine g_nm (fun h5 => ?_)
  refine g_iconst (pc := 28) (v := 1) C dX8_hour_28 kc_1 ?_
  refine g_istore (pc := 29) C dX8_hour_29 (by decide) (lv' := [(7, .int (1 : Int32)), (6, .int y2), (0, .ref (w.2.1 (147))), (1, .int x1), (2, .int x2), (3, .int x3), (4, .int x4), (5, .int x5)]) rfl ?_
  refine g_lv (lv' := [(0, .ref (w.2.1 (147))), (2, .int x2), (3, .int x3), (4, .int x4), (5, .int x5), (6, .int y2), (7, .int (1 : Int32))]) [2, 4, 5, 6, 7, 1, 0] rfl ?_
  exact j_X8_hour_31 C KF x2 x3 x4 x5 y2 (1 : Int32) h5
/-- SnowHouseModel.isMany(I)Z -/
def f_X8_isMany (h : TT) (x0 : Int32) : Option Int32 := (f_X8_in h x0 (0 : Int32) (9 : Int32)).bind fun r1 => if isZ r1 = true then some r1 else none
set_option maxRecDepth 20000 in
theorem m_X8_isMany {l : Launch} {w : WK} {h : TT} {x0 : Int32} {x : Int32} (hx : f_X8_isMany h x0 = some x)  : Met l yX8_isMany (Cond.code yX8_isMany cX8_isMany 1 (some .boolean) :: wsG) { frames := 1, cells := 0, slots := 0, locals := 22 } (PG w [.int x0] h) (QG w ((fI h) x)) 0 0 (AA w) := by
  refine m_entry (own := RX8) (f := (fI h)) hx (by decide) rfl (Nat.le_of_ble_eq_true rfl) (fun p e s m args below meth c C => ?_)
  show GO p l e _ s m args below meth c w 1 (fI h) (f_X8_isMany h x0) 0 [(0, .int x0)] [] h
  unfold f_X8_isMany
  refine g_iload_n (pc := 0) C 0 rfl dX8_isMany_0 rfl ?_
  refine g_iconst (pc := 1) (v := 0) C dX8_isMany_1 kc_0 ?_
  refine g_bipush (pc := 2) (v := 9) C dX8_isMany_2 kb_9 ?_
  refine g_callI (pc := 4) (rest := []) (g_runS C ms_RX8_71 (fun x1 hx1 => m_X8_in hx1) (by decide) rfl rfl (Nat.le_of_ble_eq_true rfl) dX8_isMany_4) (fun r1 => ?_)
  refine g_guard (fun hz2 => ?_)
  exact g_zret C dX8_isMany_7 hz2
/-- SnowHouseModel.hours(IIIIZI)V -/
def f_X8_hours_8   : Nat → Int32 → Int32 → Int32 → Int32 → Int32 → Int32 → Int32 → TT → Option TT
  | 0, _, _, _, _, _, _, _, _ => none
  | n + 1, x1, x2, x3, x4, x5, x6, x7, h => (if x6 ≤ x7 then some h else (f_X8_hour h x1 x2 x3 x4 x5).bind fun h3 => f_X8_hours_8 n x1 x2 x3 x4 x5 x6 (x7 + (1 : Int32)) h3)
set_option maxRecDepth 20000 in
theorem j_X8_hours_8 {p : Program} {l : Launch} {e : Env} {R : Room} {s : State} {m : MethodId} {args : Array Value} {below : List Frame} {meth : Method} {c : Code} {w : WK} (C : CX p R s m args meth c w RX8 cX8_hours 8 none 2 49)     : ∀ (n : Nat) (x1 : Int32) (x2 : Int32) (x3 : Int32) (x4 : Int32) (x5 : Int32) (x6 : Int32) (x7 : Int32) (h : TT), GO p l e R s m args below meth c w 8 fV (f_X8_hours_8 n x1 x2 x3 x4 x5 x6 x7 h) 8 [(0, .ref (w.2.1 (147))), (1, .int x1), (2, .int x2), (3, .int x3), (4, .int x4), (5, .int x5), (6, .int x6), (7, .int x7)] [] h := by
  intro n
  induction n with
  | zero =>
    intro x1 x2 x3 x4 x5 x6 x7 h
    exact g_none
  | succ n ih =>
    intro x1 x2 x3 x4 x5 x6 x7 h
    rw [f_X8_hours_8]
    refine g_iload (pc := 8) C 7 rfl dX8_hours_8 ?_
    refine g_iload (pc := 10) C 6 rfl dX8_hours_10 ?_
    refine g_icmp_ge (pc := 12) (tgt := 32) C dX8_hours_12 (by decide) (fun hc2 => ?_) (fun hc2 => ?_)
    · exact g_vret C dX8_hours_32
    · refine g_aload_n (pc := 15) C 0 rfl dX8_hours_15 rfl ?_
      refine g_iload_n (pc := 16) C 1 rfl dX8_hours_16 rfl ?_
      refine g_iload_n (pc := 17) C 2 rfl dX8_hours_17 rfl ?_
      refine g_iload_n (pc := 18) C 3 rfl dX8_hours_18 rfl ?_
      refine g_iload (pc := 19) C 4 rfl dX8_hours_19 ?_
      refine g_iload (pc := 21) C 5 rfl dX8_hours_21 ?_
      refine g_callV (pc := 23) (rest := []) (g_runV C mv_RX8_293 (fun x1 hx1 => m_X8_hour hx1) so_RX8 rfl (by decide) rfl rfl (Nat.le_of_ble_eq_true rfl) dX8_hours_23) (fun h3 => ?_)
      refine g_iinc (pc := 26) C 7 rfl dX8_hours_26 (ki_1 _) (by decide) (lv' := [(7, .int (x7 + (1 : Int32))), (0, .ref (w.2.1 (147))), (1, .int x1), (2, .int x2), (3, .int x3), (4, .int x4), (5, .int x5), (6, .int x6)]) rfl ?_
      refine g_goto (pc := 29) (tgt := 8) C dX8_hours_29 (by decide) ?_
      refine g_lv (lv' := [(0, .ref (w.2.1 (147))), (1, .int x1), (2, .int x2), (3, .int x3), (4, .int x4), (5, .int x5), (6, .int x6), (7, .int (x7 + (1 : Int32)))]) [1, 2, 3, 4, 5, 6, 7, 0] rfl ?_
      exact ih x1 x2 x3 x4 x5 x6 (x7 + (1 : Int32)) h3
def f_X8_hours (h : TT) (x1 : Int32) (x2 : Int32) (x3 : Int32) (x4 : Int32) (x5 : Int32) (x6 : Int32) : Option TT := (f_X8_begin h x1).bind fun h1 => f_X8_hours_8 KF x1 x2 x3 x4 x5 x6 (0 : Int32) h1
set_option maxRecDepth 20000 in
theorem m_X8_hours {l : Launch} {w : WK} {h : TT} {x1 : Int32} {x2 : Int32} {x3 : Int32} {x4 : Int32} {x5 : Int32} {x6 : Int32} {x : TT} (hx : f_X8_hours h x1 x2 x3 x4 x5 x6 = some x)  : Met l yX8_hours (Cond.code yX8_hours cX8_hours 8 none :: wsG) { frames := 2, cells := 0, slots := 0, locals := 49 } (PG w [.ref (w.2.1 (147)), .int x1, .int x2, .int x3, .int x4, .int x5, .int x6] h) (QG w (fV x)) 0 0 (AA w) := by
  refine m_entry (own := RX8) (f := fV) hx (by decide) rfl (Nat.le_of_ble_eq_true rfl) (fun p e s m args below meth c C => ?_)
  show GO p l e _ s m args below meth c w 8 fV (f_X8_hours h x1 x2 x3 x4 x5 x6) 0 [(0, .ref (w.2.1 (147))), (1, .int x1), (2, .int x2), (3, .int x3), (4, .int x4), (5, .int x5), (6, .int x6)] [] h
  unfold f_X8_hours
  refine g_aload_n (pc := 0) C 0 rfl dX8_hours_0 rfl ?_
  refine g_iload_n (pc := 1) C 1 rfl dX8_hours_1 rfl ?_
  refine g_callV (pc := 2) (rest := []) (g_runV C mv_RX8_290 (fun x1 hx1 => m_X8_begin hx1) so_RX8 rfl (by decide) rfl rfl (Nat.le_of_ble_eq_true rfl) dX8_hours_2) (fun h1 => ?_)
  refine g_iconst (pc := 5) (v := 0) C dX8_hours_5 kc_0 ?_
  refine g_istore (pc := 6) C dX8_hours_6 (by decide) (lv' := [(7, .int (0 : Int32)), (0, .ref (w.2.1 (147))), (1, .int x1), (2, .int x2), (3, .int x3), (4, .int x4), (5, .int x5), (6, .int x6)]) rfl ?_
  refine g_lv (lv' := [(0, .ref (w.2.1 (147))), (1, .int x1), (2, .int x2), (3, .int x3), (4, .int x4), (5, .int x5), (6, .int x6), (7, .int (0 : Int32))]) [1, 2, 3, 4, 5, 6, 7, 0] rfl ?_
  exact j_X8_hours_8 C KF x1 x2 x3 x4 x5 x6 (0 : Int32) h1
/-- SnowHouseModel.air(IIIIII)I -/
def f_X8_air_84   (x6 : Int32) (xs0 : Int32) (xs1 : Int32) (xs2 : Int32) (xs3 : Int32) (xs4 : Int32) (h : TT) : Option (Int32 × TT) := (f_X8_hours h xs4 xs3 xs2 xs1 xs0 x6).bind fun h17 => if inb (5 : Int32) 6 = true then (f_X8_tellsBy h17 (h17.1 164 (5 : Int32).toNatClampNeg) (h17.1 147 26)).bind fun q19 => some (q19.1, q19.2) else none
set_option maxRecDepth 20000 in
theorem j_X8_air_84 {p : Program} {l : Launch} {e : Env} {R : Room} {s : State} {m : MethodId} {args : Array Value} {below : List Frame} {meth : Method} {c : Code} {w : WK} (C : CX p R s m args meth c w RX8 cX8_air 7 (some .int) 3 76)     (x6 : Int32) (xs0 : Int32) (xs1 : Int32) (xs2 : Int32) (xs3 : Int32) (xs4 : Int32)  (h : TT) : GO p l e R s m args below meth c w 7 fIT (f_X8_air_84 x6 xs0 xs1 xs2 xs3 xs4 h) 84 [(0, .ref (w.2.1 (147))), (6, .int x6)] [.int xs0, .int xs1, .int xs2, .int xs3, .int xs4, .ref (w.2.1 (147))] h := by
  unfold f_X8_air_84
  refine g_iload (pc := 84) C 1 rfl dX8_air_84 ?_
  refine g_callV (pc := 86) (rest := []) (g_runV C mv_RX8_300 (fun x1 hx1 => m_X8_hours hx1) so_RX8 rfl (by decide) rfl rfl (Nat.le_of_ble_eq_true rfl) dX8_air_86) (fun h17 => ?_)
  refine g_aload_n (pc := 89) C 0 rfl dX8_air_89 rfl ?_
  refine g_aload_n (pc := 90) C 0 rfl dX8_air_90 rfl ?_
  refine g_get (pc := 91) C so_RX8 25 fl_RX8_60 (v := .ref (w.2.1 (164))) rfl dX8_air_91 ?_
  refine g_iconst (pc := 94) (v := 5) C dX8_air_94 kc_5 ?_
  refine g_iald (pc := 95) C si_164 dX8_air_95 (fun hb18 => ?_)
  refine g_aload_n (pc := 96) C 0 rfl dX8_air_96 rfl ?_
  refine g_get (pc := 97) C so_RX8 26 fl_RX8_287 (v := .int (h17.1 147 26)) rfl dX8_air_97 ?_
  refine g_callIT (pc := 100) (rest := []) (g_runV C mv_RX8_93 (fun x1 hx1 => m_X8_tellsBy hx1) so_RX8 rfl (by decide) rfl rfl (Nat.le_of_ble_eq_true rfl) dX8_air_100) (fun q19 => ?_)
  exact g_iretT C dX8_air_103
def f_X8_air (h : TT) (x1 : Int32) (x2 : Int32) (x3 : Int32) (x4 : Int32) (x5 : Int32) (x6 : Int32) : Option (Int32 × TT) := (f_X8_isPlace h x1).bind fun r1 => (if r1 = 0 then some ((-1 : Int32), h) else (f_X8_isMany h x2).bind fun r3 => (if r3 = 0 then some ((-1 : Int32), h) else (f_X8_isMany h x3).bind fun r5 => (if r5 = 0 then some ((-1 : Int32), h) else (f_X8_isMany h x4).bind fun r7 => (if r7 = 0 then some ((-1 : Int32), h) else (f_X8_in h x5 (0 : Int32) (1 : Int32)).bind fun r9 => (if r9 = 0 then some ((-1 : Int32), h) else (f_X8_in h x6 (0 : Int32) (48 : Int32)).bind fun r11 => (if r11 = 0 then some ((-1 : Int32), h) else if inb x1 4 = true then (if (h.1 154 x1.toNatClampNeg) = 0 then (f_X8_meets h (1 : Int32)).bind fun q15 => some (q15.1, q15.2) else (if x5 = (1 : Int32) then f_X8_air_84 x6 (1 : Int32) x4 x3 x2 x1 h else f_X8_air_84 x6 (0 : Int32) x4 x3 x2 x1 h)) else none))))))
set_option maxRecDepth 20000 in
theorem m_X8_air {l : Launch} {w : WK} {h : TT} {x1 : Int32} {x2 : Int32} {x3 : Int32} {x4 : Int32} {x5 : Int32} {x6 : Int32} {x : (Int32 × TT)} (hx : f_X8_air h x1 x2 x3 x4 x5 x6 = some x)  : Met l yX8_air (Cond.code yX8_air cX8_air 7 (some .int) :: wsG) { frames := 3, cells := 0, slots := 0, locals := 76 } (PG w [.ref (w.2.1 (147)), .int x1, .int x2, .int x3, .int x4, .int x5, .int x6] h) (QG w (fIT x)) 0 0 (AA w) := by
  refine m_entry (own := RX8) (f := fIT) hx (by decide) rfl (Nat.le_of_ble_eq_true rfl) (fun p e s m args below meth c C => ?_)
  show GO p l e _ s m args below meth c w 7 fIT (f_X8_air h x1 x2 x3 x4 x5 x6) 0 [(0, .ref (w.2.1 (147))), (1, .int x1), (2, .int x2), (3, .int x3), (4, .int x4), (5, .int x5), (6, .int x6)] [] h
  unfold f_X8_air
  refine g_iload_n (pc := 0) C 1 rfl dX8_air_0 rfl ?_
  refine g_callI (pc := 1) (rest := []) (g_runS C ms_RX8_136 (fun x1 hx1 => m_X8_isPlace hx1) (by decide) rfl rfl (Nat.le_of_ble_eq_true rfl) dX8_air_1) (fun r1 => ?_)
  refine g_if_eq (pc := 4) (tgt := 50) C dX8_air_4 (by decide) (fun hc2 => ?_) (fun hc2 => ?_)
  · refine g_iconst (pc := 50) (v := -1) C dX8_air_50 kc_m1 ?_
    exact g_iretT C dX8_air_51
  · refine g_iload_n (pc := 7) C 2 rfl dX8_air_7 rfl ?_
    refine g_callI (pc := 8) (rest := []) (g_runS C ms_RX8_297 (fun x1 hx1 => m_X8_isMany hx1) (by decide) rfl rfl (Nat.le_of_ble_eq_true rfl) dX8_air_8) (fun r3 => ?_)
    refine g_if_eq (pc := 11) (tgt := 50) C dX8_air_11 (by decide) (fun hc4 => ?_) (fun hc4 => ?_)
    · refine g_iconst (pc := 50) (v := -1) C dX8_air_50 kc_m1 ?_
      exact g_iretT C dX8_air_51
    · refine g_iload_n (pc := 14) C 3 rfl dX8_air_14 rfl ?_
      refine g_callI (pc := 15) (rest := []) (g_runS C ms_RX8_297 (fun x1 hx1 => m_X8_isMany hx1) (by decide) rfl rfl (Nat.le_of_ble_eq_true rfl) dX8_air_15) (fun r5 => ?_)
      refine g_if_eq (pc := 18) (tgt := 50) C dX8_air_18 (by decide) (fun hc6 => ?_) (fun hc6 => ?_)
      · refine g_iconst (pc := 50) (v := -1) C dX8_air_50 kc_m1 ?_
        exact g_iretT C dX8_air_51
      · refine g_iload (pc := 21) C 4 rfl dX8_air_21 ?_
        refine g_callI (pc := 23) (rest := []) (g_runS C ms_RX8_297 (fun x1 hx1 => m_X8_isMany hx1) (by decide) rfl rfl (Nat.le_of_ble_eq_true rfl) dX8_air_23) (fun r7 => ?_)
        refine g_if_eq (pc := 26) (tgt := 50) C dX8_air_26 (by decide) (fun hc8 => ?_) (fun hc8 => ?_)
        · refine g_iconst (pc := 50) (v := -1) C dX8_air_50 kc_m1 ?_
          exact g_iretT C dX8_air_51
        · refine g_iload (pc := 29) C 5 rfl dX8_air_29 ?_
          refine g_iconst (pc := 31) (v := 0) C dX8_air_31 kc_0 ?_
          refine g_iconst (pc := 32) (v := 1) C dX8_air_32 kc_1 ?_
          refine g_callI (pc := 33) (rest := []) (g_runS C ms_RX8_71 (fun x1 hx1 => m_X8_in hx1) (by decide) rfl rfl (Nat.le_of_ble_eq_true rfl) dX8_air_33) (fun r9 => ?_)
          refine g_if_eq (pc := 36) (tgt := 50) C dX8_air_36 (by decide) (fun hc10 => ?_) (fun hc10 => ?_)
          · refine g_iconst (pc := 50) (v := -1) C dX8_air_50 kc_m1 ?_
            exact g_iretT C dX8_air_51
          · refine g_iload (pc := 39) C 6 rfl dX8_air_39 ?_
            refine g_iconst (pc := 41) (v := 0) C dX8_air_41 kc_0 ?_
            refine g_bipush (pc := 42) (v := 48) C dX8_air_42 kb_48 ?_
            refine g_callI (pc := 44) (rest := []) (g_runS C ms_RX8_71 (fun x1 hx1 => m_X8_in hx1) (by decide) rfl rfl (Nat.le_of_ble_eq_true rfl) dX8_air_44) (fun r11 => ?_)
            refine g_if_ne (pc := 47) (tgt := 52) C dX8_air_47 (by decide) (fun hc12 => ?_) (fun hc12 => ?_)
            · refine g_iconst (pc := 50) (v := -1) C dX8_air_50 kc_m1 ?_
              exact g_iretT C dX8_air_51
            · refine g_aload_n (pc := 52) C 0 rfl dX8_air_52 rfl ?_
              refine g_get (pc := 53) C so_RX8 10 fl_RX8_29 (v := .ref (w.2.1 (154))) rfl dX8_air_53 ?_
              refine g_iload_n (pc := 56) C 1 rfl dX8_air_56 rfl ?_
              refine g_zald (pc := 57) C sz_154 dX8_air_57 (fun hb13 => ?_)
              refine g_if_ne (pc := 58) (tgt := 67) C dX8_air_58 (by decide) (fun hc14 => ?_) (fun hc14 => ?_)
              · refine g_aload_n (pc := 61) C 0 rfl dX8_air_61 rfl ?_
                refine g_iconst (pc := 62) (v := 1) C dX8_air_62 kc_1 ?_
                refine g_callIT (pc := 63) (rest := []) (g_runV C mv_RX8_85 (fun x1 hx1 => m_X8_meets hx1) so_RX8 rfl (by decide) rfl rfl (Nat.le_of_ble_eq_true rfl) dX8_air_63) (fun q15 => ?_)
                exact g_iretT C dX8_air_66
              · refine g_aload_n (pc := 67) C 0 rfl dX8_air_67 rfl ?_
                refine g_iload_n (pc := 68) C 1 rfl dX8_air_68 rfl ?_
                refine g_iload_n (pc := 69) C 2 rfl dX8_air_69 rfl ?_
                refine g_iload_n (pc := 70) C 3 rfl dX8_air_70 rfl ?_
                refine g_iload (pc := 71) C 4 rfl dX8_air_71 ?_
                refine g_iload (pc := 73) C 5 rfl dX8_air_73 ?_
                refine g_iconst (pc := 75) (v := 1) C dX8_air_75 kc_1 ?_
                refine g_icmp_ne (pc := 76) (tgt := 83) C dX8_air_76 (by decide) (fun hc16 => ?_) (fun hc16 => ?_)
                · refine g_iconst (pc := 79) (v := 1) C dX8_air_79 kc_1 ?_
                  refine g_goto (pc := 80) (tgt := 84) C dX8_air_80 (by decide) ?_
                  refine g_lv (lv' := [(0, .ref (w.2.1 (147))), (6, .int x6)]) [0, 6] rfl ?_
                  exact j_X8_air_84 C x6 (1 : Int32) x4 x3 x2 x1 h
                · refine g_iconst (pc := 83) (v := 0) C dX8_air_83 kc_0 ?_
                  refine g_lv (lv' := [(0, .ref (w.2.1 (147))), (6, .int x6)]) [0, 6] rfl ?_
                  exact j_X8_air_84 C x6 (0 : Int32) x4 x3 x2 x1 h
/-- SnowHouseModel.layer(IIIIII)I -/
def f_X8_layer (h : TT) (x1 : Int32) (x2 : Int32) (x3 : Int32) (x4 : Int32) (x5 : Int32) (x6 : Int32) : Option (Int32 × TT) := (f_X8_isPlace h x1).bind fun r1 => (if r1 = 0 then some ((-1 : Int32), h) else (f_X8_isMany h x2).bind fun r3 => (if r3 = 0 then some ((-1 : Int32), h) else (f_X8_isMany h x3).bind fun r5 => (if r5 = 0 then some ((-1 : Int32), h) else (f_X8_isMany h x4).bind fun r7 => (if r7 = 0 then some ((-1 : Int32), h) else (f_X8_in h x5 (0 : Int32) (48 : Int32)).bind fun r9 => (if r9 = 0 then some ((-1 : Int32), h) else (f_X8_in h x6 (0 : Int32) (5 : Int32)).bind fun r11 => (if r11 = 0 then some ((-1 : Int32), h) else if inb x1 4 = true then (if (h.1 154 x1.toNatClampNeg) = 0 then (f_X8_meets h (1 : Int32)).bind fun q15 => some (q15.1, q15.2) else (f_X8_hours h x1 x2 x3 x4 (1 : Int32) x5).bind fun h16 => if inb x6 6 = true then (f_X8_tellsBy h16 (h16.1 164 x6.toNatClampNeg) (1 : Int32)).bind fun q18 => some (q18.1, q18.2) else none) else none))))))
set_option maxRecDepth 20000 in
theorem m_X8_layer {l : Launch} {w : WK} {h : TT} {x1 : Int32} {x2 : Int32} {x3 : Int32} {x4 : Int32} {x5 : Int32} {x6 : Int32} {x : (Int32 × TT)} (hx : f_X8_layer h x1 x2 x3 x4 x5 x6 = some x)  : Met l yX8_layer (Cond.code yX8_layer cX8_layer 7 (some .int) :: wsG) { frames := 3, cells := 0, slots := 0, locals := 76 } (PG w [.ref (w.2.1 (147)), .int x1, .int x2, .int x3, .int x4, .int x5, .int x6] h) (QG w (fIT x)) 0 0 (AA w) := by
  refine m_entry (own := RX8) (f := fIT) hx (by decide) rfl (Nat.le_of_ble_eq_true rfl) (fun p e s m args below meth c C => ?_)
  show GO p l e _ s m args below meth c w 7 fIT (f_X8_layer h x1 x2 x3 x4 x5 x6) 0 [(0, .ref (w.2.1 (147))), (1, .int x1), (2, .int x2), (3, .int x3), (4, .int x4), (5, .int x5), (6, .int x6)] [] h
  unfold f_X8_layer
  refine g_iload_n (pc := 0) C 1 rfl dX8_layer_0 rfl ?_
  refine g_callI (pc := 1) (rest := []) (g_runS C ms_RX8_136 (fun x1 hx1 => m_X8_isPlace hx1) (by decide) rfl rfl (Nat.le_of_ble_eq_true rfl) dX8_layer_1) (fun r1 => ?_)
  refine g_if_eq (pc := 4) (tgt := 50) C dX8_layer_4 (by decide) (fun hc2 => ?_) (fun hc2 => ?_)
  · refine g_iconst (pc := 50) (v := -1) C dX8_layer_50 kc_m1 ?_
    exact g_iretT C dX8_layer_51
  · refine g_iload_n (pc := 7) C 2 rfl dX8_layer_7 rfl ?_
    refine g_callI (pc := 8) (rest := []) (g_runS C ms_RX8_297 (fun x1 hx1 => m_X8_isMany hx1) (by decide) rfl rfl (Nat.le_of_ble_eq_true rfl) dX8_layer_8) (fun r3 => ?_)
    refine g_if_eq (pc := 11) (tgt := 50) C dX8_layer_11 (by decide) (fun hc4 => ?_) (fun hc4 => ?_)
    · refine g_iconst (pc := 50) (v := -1) C dX8_layer_50 kc_m1 ?_
      exact g_iretT C dX8_layer_51
    · refine g_iload_n (pc := 14) C 3 rfl dX8_layer_14 rfl ?_
      refine g_callI (pc := 15) (rest := []) (g_runS C ms_RX8_297 (fun x1 hx1 => m_X8_isMany hx1) (by decide) rfl rfl (Nat.le_of_ble_eq_true rfl) dX8_layer_15) (fun r5 => ?_)
      refine g_if_eq (pc := 18) (tgt := 50) C dX8_layer_18 (by decide) (fun hc6 => ?_) (fun hc6 => ?_)
      · refine g_iconst (pc := 50) (v := -1) C dX8_layer_50 kc_m1 ?_
        exact g_iretT C dX8_layer_51
      · refine g_iload (pc := 21) C 4 rfl dX8_layer_21 ?_
        refine g_callI (pc := 23) (rest := []) (g_runS C ms_RX8_297 (fun x1 hx1 => m_X8_isMany hx1) (by decide) rfl rfl (Nat.le_of_ble_eq_true rfl) dX8_layer_23) (fun r7 => ?_)
        refine g_if_eq (pc := 26) (tgt := 50) C dX8_layer_26 (by decide) (fun hc8 => ?_) (fun hc8 => ?_)
        · refine g_iconst (pc := 50) (v := -1) C dX8_layer_50 kc_m1 ?_
          exact g_iretT C dX8_layer_51
        · refine g_iload (pc := 29) C 5 rfl dX8_layer_29 ?_
          refine g_iconst (pc := 31) (v := 0) C dX8_layer_31 kc_0 ?_
          refine g_bipush (pc := 32) (v := 48) C dX8_layer_32 kb_48 ?_
          refine g_callI (pc := 34) (rest := []) (g_runS C ms_RX8_71 (fun x1 hx1 => m_X8_in hx1) (by decide) rfl rfl (Nat.le_of_ble_eq_true rfl) dX8_layer_34) (fun r9 => ?_)
          refine g_if_eq (pc := 37) (tgt := 50) C dX8_layer_37 (by decide) (fun hc10 => ?_) (fun hc10 => ?_)
          · refine g_iconst (pc := 50) (v := -1) C dX8_layer_50 kc_m1 ?_
            exact g_iretT C dX8_layer_51
          · refine g_iload (pc := 40) C 6 rfl dX8_layer_40 ?_
            refine g_iconst (pc := 42) (v := 0) C dX8_layer_42 kc_0 ?_
            refine g_iconst (pc := 43) (v := 5) C dX8_layer_43 kc_5 ?_
            refine g_callI (pc := 44) (rest := []) (g_runS C ms_RX8_71 (fun x1 hx1 => m_X8_in hx1) (by decide) rfl rfl (Nat.le_of_ble_eq_true rfl) dX8_layer_44) (fun r11 => ?_)
            refine g_if_ne (pc := 47) (tgt := 52) C dX8_layer_47 (by decide) (fun hc12 => ?_) (fun hc12 => ?_)
            · refine g_iconst (pc := 50) (v := -1) C dX8_layer_50 kc_m1 ?_
              exact g_iretT C dX8_layer_51
            · refine g_aload_n (pc := 52) C 0 rfl dX8_layer_52 rfl ?_
              refine g_get (pc := 53) C so_RX8 10 fl_RX8_29 (v := .ref (w.2.1 (154))) rfl dX8_layer_53 ?_
              refine g_iload_n (pc := 56) C 1 rfl dX8_layer_56 rfl ?_
              refine g_zald (pc := 57) C sz_154 dX8_layer_57 (fun hb13 => ?_)
              refine g_if_ne (pc := 58) (tgt := 67) C dX8_layer_58 (by decide) (fun hc14 => ?_) (fun hc14 => ?_)
              · refine g_aload_n (pc := 61) C 0 rfl dX8_layer_61 rfl ?_
                refine g_iconst (pc := 62) (v := 1) C dX8_layer_62 kc_1 ?_
                refine g_callIT (pc := 63) (rest := []) (g_runV C mv_RX8_85 (fun x1 hx1 => m_X8_meets hx1) so_RX8 rfl (by decide) rfl rfl (Nat.le_of_ble_eq_true rfl) dX8_layer_63) (fun q15 => ?_)
                exact g_iretT C dX8_layer_66
              · refine g_aload_n (pc := 67) C 0 rfl dX8_layer_67 rfl ?_
                refine g_iload_n (pc := 68) C 1 rfl dX8_layer_68 rfl ?_
                refine g_iload_n (pc := 69) C 2 rfl dX8_layer_69 rfl ?_
                refine g_iload_n (pc := 70) C 3 rfl dX8_layer_70 rfl ?_
                refine g_iload (pc := 71) C 4 rfl dX8_layer_71 ?_
                refine g_iconst (pc := 73) (v := 1) C dX8_layer_73 kc_1 ?_
                refine g_iload (pc := 74) C 5 rfl dX8_layer_74 ?_
                refine g_callV (pc := 76) (rest := []) (g_runV C mv_RX8_300 (fun x1 hx1 => m_X8_hours hx1) so_RX8 rfl (by decide) rfl rfl (Nat.le_of_ble_eq_true rfl) dX8_layer_76) (fun h16 => ?_)
                refine g_aload_n (pc := 79) C 0 rfl dX8_layer_79 rfl ?_
                refine g_aload_n (pc := 80) C 0 rfl dX8_layer_80 rfl ?_
                refine g_get (pc := 81) C so_RX8 25 fl_RX8_60 (v := .ref (w.2.1 (164))) rfl dX8_layer_81 ?_
                refine g_iload (pc := 84) C 6 rfl dX8_layer_84 ?_
                refine g_iald (pc := 86) C si_164 dX8_layer_86 (fun hb17 => ?_)
                refine g_iconst (pc := 87) (v := 1) C dX8_layer_87 kc_1 ?_
                refine g_callIT (pc := 88) (rest := []) (g_runV C mv_RX8_93 (fun x1 hx1 => m_X8_tellsBy hx1) so_RX8 rfl (by decide) rfl rfl (Nat.le_of_ble_eq_true rfl) dX8_layer_88) (fun q18 => ?_)
                exact g_iretT C dX8_layer_91
/-- SnowHouseModel.hole(III)I -/
def f_X8_hole_95  (k41 : Int32 → Int32 → Int32 → Int32 → TT → Option (Int32 × TT)) (k59 : Int32 → Int32 → Int32 → Int32 → Int32 → Int32 → TT → Option (Int32 × TT)) (x1 : Int32) (x2 : Int32) (x3 : Int32) (x4 : Int32) (x6 : Int32) (xs0 : Int32) (h : TT) : Option (Int32 × TT) := k59 x1 x2 x3 x4 xs0 (x6 + (1 : Int32)) h
set_option maxRecDepth 20000 in
theorem j_X8_hole_95 {p : Program} {l : Launch} {e : Env} {R : Room} {s : State} {m : MethodId} {args : Array Value} {below : List Frame} {meth : Method} {c : Code} {w : WK} (C : CX p R s m args meth c w RX8 cX8_hole 7 (some .int) 2 49)    {k41 : Int32 → Int32 → Int32 → Int32 → TT → Option (Int32 × TT)} (hk41 : ∀ (x1 : Int32) (x2 : Int32) (x3 : Int32) (x4 : Int32)  (h : TT), GO p l e R s m args below meth c w 7 fIT (k41 x1 x2 x3 x4 h) 41 [(0, .ref (w.2.1 (147))), (1, .int x1), (2, .int x2), (3, .int x3), (4, .int x4)] [] h) {k59 : Int32 → Int32 → Int32 → Int32 → Int32 → Int32 → TT → Option (Int32 × TT)} (hk59 : ∀ (x1 : Int32) (x2 : Int32) (x3 : Int32) (x4 : Int32) (x5 : Int32) (x6 : Int32)  (h : TT), GO p l e R s m args below meth c w 7 fIT (k59 x1 x2 x3 x4 x5 x6 h) 59 [(0, .ref (w.2.1 (147))), (1, .int x1), (2, .int x2), (3, .int x3), (4, .int x4), (5, .int x5), (6, .int x6)] [] h) (x1 : Int32) (x2 : Int32) (x3 : Int32) (x4 : Int32) (x6 : Int32) (xs0 : Int32)  (h : TT) : GO p l e R s m args below meth c w 7 fIT (f_X8_hole_95 k41 k59 x1 x2 x3 x4 x6 xs0 h) 95 [(0, .ref (w.2.1 (147))), (1, .int x1), (2, .int x2), (3, .int x3), (4, .int x4), (6, .int x6)] [.int xs0] h := by
  unfold f_X8_hole_95
  refine g_istore (pc := 95) C dX8_hole_95 (by decide) (lv' := [(5, .int xs0), (0, .ref (w.2.1 (147))), (1, .int x1), (2, .int x2), (3, .int x3), (4, .int x4), (6, .int x6)]) rfl ?_
  refine g_iinc (pc := 97) C 6 rfl dX8_hole_97 (ki_1 _) (by decide) (lv' := [(6, .int (x6 + (1 : Int32))), (5, .int xs0), (0, .ref (w.2.1 (147))), (1, .int x1), (2, .int x2), (3, .int x3), (4, .int x4)]) rfl ?_
  refine g_goto (pc := 100) (tgt := 59) C dX8_hole_100 (by decide) ?_
  refine g_lv (lv' := [(0, .ref (w.2.1 (147))), (1, .int x1), (2, .int x2), (3, .int x3), (4, .int x4), (5, .int xs0), (6, .int (x6 + (1 : Int32)))]) [2, 3, 4, 5, 6, 1, 0] rfl ?_
  exact hk59 x1 x2 x3 x4 xs0 (x6 + (1 : Int32)) h
def f_X8_hole_94  (k41 : Int32 → Int32 → Int32 → Int32 → TT → Option (Int32 × TT)) (k59 : Int32 → Int32 → Int32 → Int32 → Int32 → Int32 → TT → Option (Int32 × TT)) (x1 : Int32) (x2 : Int32) (x3 : Int32) (x4 : Int32) (x6 : Int32) (h : TT) : Option (Int32 × TT) := f_X8_hole_95 k41 k59 x1 x2 x3 x4 x6 (0 : Int32) h
set_option maxRecDepth 20000 in
theorem j_X8_hole_94 {p : Program} {l : Launch} {e : Env} {R : Room} {s : State} {m : MethodId} {args : Array Value} {below : List Frame} {meth : Method} {c : Code} {w : WK} (C : CX p R s m args meth c w RX8 cX8_hole 7 (some .int) 2 49)    {k41 : Int32 → Int32 → Int32 → Int32 → TT → Option (Int32 × TT)} (hk41 : ∀ (x1 : Int32) (x2 : Int32) (x3 : Int32) (x4 : Int32)  (h : TT), GO p l e R s m args below meth c w 7 fIT (k41 x1 x2 x3 x4 h) 41 [(0, .ref (w.2.1 (147))), (1, .int x1), (2, .int x2), (3, .int x3), (4, .int x4)] [] h) {k59 : Int32 → Int32 → Int32 → Int32 → Int32 → Int32 → TT → Option (Int32 × TT)} (hk59 : ∀ (x1 : Int32) (x2 : Int32) (x3 : Int32) (x4 : Int32) (x5 : Int32) (x6 : Int32)  (h : TT), GO p l e R s m args below meth c w 7 fIT (k59 x1 x2 x3 x4 x5 x6 h) 59 [(0, .ref (w.2.1 (147))), (1, .int x1), (2, .int x2), (3, .int x3), (4, .int x4), (5, .int x5), (6, .int x6)] [] h) (x1 : Int32) (x2 : Int32) (x3 : Int32) (x4 : Int32) (x6 : Int32)  (h : TT) : GO p l e R s m args below meth c w 7 fIT (f_X8_hole_94 k41 k59 x1 x2 x3 x4 x6 h) 94 [(0, .ref (w.2.1 (147))), (1, .int x1), (2, .int x2), (3, .int x3), (4, .int x4), (6, .int x6)] [] h := by
  unfold f_X8_hole_94
  refine g_iconst (pc := 94) (v := 0) C dX8_hole_94 kc_0 ?_
  exact j_X8_hole_95 C hk41 hk59 x1 x2 x3 x4 x6 (0 : Int32) h
def f_X8_hole_59  (k41 : Int32 → Int32 → Int32 → Int32 → TT → Option (Int32 × TT)) : Nat → Int32 → Int32 → Int32 → Int32 → Int32 → Int32 → TT → Option (Int32 × TT)
  | 0, _, _, _, _, _, _, _ => none
  | n + 1, x1, x2, x3, x4, x5, x6, h => (if (12 : Int32) ≤ x6 then (if x5 = 0 then k41 x1 x2 x3 (x4 + (1 : Int32)) h else if inb (5 : Int32) 6 = true then (f_X8_tellsBy h (h.1 164 (5 : Int32).toNatClampNeg) x4).bind fun q15 => some (q15.1, q15.2) else none) else (f_X8_hour h x1 x2 x3 x4 (1 : Int32)).bind fun h16 => (if x5 = 0 then f_X8_hole_94 k41 (f_X8_hole_59 k41 n) x1 x2 x3 x4 x6 h16 else (if (h16.1 147 26) < (50 : Int32) then f_X8_hole_94 k41 (f_X8_hole_59 k41 n) x1 x2 x3 x4 x6 h16 else f_X8_hole_95 k41 (f_X8_hole_59 k41 n) x1 x2 x3 x4 x6 (1 : Int32) h16)))
set_option maxRecDepth 20000 in
theorem j_X8_hole_59 {p : Program} {l : Launch} {e : Env} {R : Room} {s : State} {m : MethodId} {args : Array Value} {below : List Frame} {meth : Method} {c : Code} {w : WK} (C : CX p R s m args meth c w RX8 cX8_hole 7 (some .int) 2 49)    {k41 : Int32 → Int32 → Int32 → Int32 → TT → Option (Int32 × TT)} (hk41 : ∀ (x1 : Int32) (x2 : Int32) (x3 : Int32) (x4 : Int32)  (h : TT), GO p l e R s m args below meth c w 7 fIT (k41 x1 x2 x3 x4 h) 41 [(0, .ref (w.2.1 (147))), (1, .int x1), (2, .int x2), (3, .int x3), (4, .int x4)] [] h) : ∀ (n : Nat) (x1 : Int32) (x2 : Int32) (x3 : Int32) (x4 : Int32) (x5 : Int32) (x6 : Int32) (h : TT), GO p l e R s m args below meth c w 7 fIT (f_X8_hole_59 k41 n x1 x2 x3 x4 x5 x6 h) 59 [(0, .ref (w.2.1 (147))), (1, .int x1), (2, .int x2), (3, .int x3), (4, .int x4), (5, .int x5), (6, .int x6)] [] h := by
  intro n
  induction n with
  | zero =>
    intro x1 x2 x3 x4 x5 x6 h
    exact g_none
  | succ n ih =>
    intro x1 x2 x3 x4 x5 x6 h
    rw [f_X8_hole_59]
    refine g_iload (pc := 59) C 6 rfl dX8_hole_59 ?_
    refine g_bipush (pc := 61) (v := 12) C dX8_hole_61 kb_12 ?_
    refine g_icmp_ge (pc := 63) (tgt := 103) C dX8_hole_63 (by decide) (fun hc12 => ?_) (fun hc12 => ?_)
    · refine g_iload (pc := 103) C 5 rfl dX8_hole_103 ?_
      refine g_if_eq (pc := 105) (tgt := 121) C dX8_hole_105 (by decide) (fun hc13 => ?_) (fun hc13 => ?_)
      · refine g_iinc (pc := 121) C 4 rfl dX8_hole_121 (ki_1 _) (by decide) (lv' := [(4, .int (x4 + (1 : Int32))), (0, .ref (w.2.1 (147))), (1, .int x1), (2, .int x2), (3, .int x3), (5, .int x5), (6, .int x6)]) rfl ?_
        refine g_goto (pc := 124) (tgt := 41) C dX8_hole_124 (by decide) ?_
        refine g_lv (lv' := [(0, .ref (w.2.1 (147))), (1, .int x1), (2, .int x2), (3, .int x3), (4, .int (x4 + (1 : Int32)))]) [1, 2, 3, 4, 0] rfl ?_
        exact hk41 x1 x2 x3 (x4 + (1 : Int32)) h
      · refine g_aload_n (pc := 108) C 0 rfl dX8_hole_108 rfl ?_
        refine g_aload_n (pc := 109) C 0 rfl dX8_hole_109 rfl ?_
        refine g_get (pc := 110) C so_RX8 25 fl_RX8_60 (v := .ref (w.2.1 (164))) rfl dX8_hole_110 ?_
        refine g_iconst (pc := 113) (v := 5) C dX8_hole_113 kc_5 ?_
        refine g_iald (pc := 114) C si_164 dX8_hole_114 (fun hb14 => ?_)
        refine g_iload (pc := 115) C 4 rfl dX8_hole_115 ?_
        refine g_callIT (pc := 117) (rest := []) (g_runV C mv_RX8_93 (fun x1 hx1 => m_X8_tellsBy hx1) so_RX8 rfl (by decide) rfl rfl (Nat.le_of_ble_eq_true rfl) dX8_hole_117) (fun q15 => ?_)
        exact g_iretT C dX8_hole_120
    · refine g_aload_n (pc := 66) C 0 rfl dX8_hole_66 rfl ?_
      refine g_iload_n (pc := 67) C 1 rfl dX8_hole_67 rfl ?_
      refine g_iload_n (pc := 68) C 2 rfl dX8_hole_68 rfl ?_
      refine g_iload_n (pc := 69) C 3 rfl dX8_hole_69 rfl ?_
      refine g_iload (pc := 70) C 4 rfl dX8_hole_70 ?_
      refine g_iconst (pc := 72) (v := 1) C dX8_hole_72 kc_1 ?_
      refine g_callV (pc := 73) (rest := []) (g_runV C mv_RX8_293 (fun x1 hx1 => m_X8_hour hx1) so_RX8 rfl (by decide) rfl rfl (Nat.le_of_ble_eq_true rfl) dX8_hole_73) (fun h16 => ?_)
      refine g_iload (pc := 76) C 5 rfl dX8_hole_76 ?_
      refine g_if_eq (pc := 78) (tgt := 94) C dX8_hole_78 (by decide) (fun hc17 => ?_) (fun hc17 => ?_)
      · refine g_lv (lv' := [(0, .ref (w.2.1 (147))), (1, .int x1), (2, .int x2), (3, .int x3), (4, .int x4), (6, .int x6)]) [0, 1, 2, 3, 4, 6] rfl ?_
        exact j_X8_hole_94 C hk41 ih x1 x2 x3 x4 x6 h16
      · refine g_aload_n (pc := 81) C 0 rfl dX8_hole_81 rfl ?_
        refine g_get (pc := 82) C so_RX8 26 fl_RX8_287 (v := .int (h16.1 147 26)) rfl dX8_hole_82 ?_
        refine g_bipush (pc := 85) (v := 50) C dX8_hole_85 kb_50 ?_
        refine g_icmp_lt (pc := 87) (tgt := 94) C dX8_hole_87 (by decide) (fun hc18 => ?_) (fun hc18 => ?_)
        · refine g_lv (lv' := [(0, .ref (w.2.1 (147))), (1, .int x1), (2, .int x2), (3, .int x3), (4, .int x4), (6, .int x6)]) [0, 1, 2, 3, 4, 6] rfl ?_
          exact j_X8_hole_94 C hk41 ih x1 x2 x3 x4 x6 h16
        · refine g_iconst (pc := 90) (v := 1) C dX8_hole_90 kc_1 ?_
          refine g_goto (pc := 91) (tgt := 95) C dX8_hole_91 (by decide) ?_
          refine g_lv (lv' := [(0, .ref (w.2.1 (147))), (1, .int x1), (2, .int x2), (3, .int x3), (4, .int x4), (6, .int x6)]) [0, 1, 2, 3, 4, 6] rfl ?_
          exact j_X8_hole_95 C hk41 ih x1 x2 x3 x4 x6 (1 : Int32) h16
def f_X8_hole_41   : Nat → Int32 → Int32 → Int32 → Int32 → TT → Option (Int32 × TT)
  | 0, _, _, _, _, _ => none
  | n + 1, x1, x2, x3, x4, h => (if (9 : Int32) < x4 then some ((-9 : Int32), h) else (f_X8_begin h x1).bind fun h11 => f_X8_hole_59 (f_X8_hole_41 n) KF x1 x2 x3 x4 (1 : Int32) (0 : Int32) h11)
set_option maxRecDepth 20000 in
theorem j_X8_hole_41 {p : Program} {l : Launch} {e : Env} {R : Room} {s : State} {m : MethodId} {args : Array Value} {below : List Frame} {meth : Method} {c : Code} {w : WK} (C : CX p R s m args meth c w RX8 cX8_hole 7 (some .int) 2 49)     : ∀ (n : Nat) (x1 : Int32) (x2 : Int32) (x3 : Int32) (x4 : Int32) (h : TT), GO p l e R s m args below meth c w 7 fIT (f_X8_hole_41 n x1 x2 x3 x4 h) 41 [(0, .ref (w.2.1 (147))), (1, .int x1), (2, .int x2), (3, .int x3), (4, .int x4)] [] h := by
  intro n
  induction n with
  | zero =>
    intro x1 x2 x3 x4 h
    exact g_none
  | succ n ih =>
    intro x1 x2 x3 x4 h
    rw [f_X8_hole_41]
    refine g_iload (pc := 41) C 4 rfl dX8_hole_41 ?_
    refine g_bipush (pc := 43) (v := 9) C dX8_hole_43 kb_9 ?_
    refine g_icmp_gt (pc := 45) (tgt := 127) C dX8_hole_45 (by decide) (fun hc10 => ?_) (fun hc10 => ?_)
    · refine g_bipush (pc := 127) (v := -9) C dX8_hole_127 kb_m9 ?_
      exact g_iretT C dX8_hole_129
    · refine g_iconst (pc := 48) (v := 1) C dX8_hole_48 kc_1 ?_
      refine g_istore (pc := 49) C dX8_hole_49 (by decide) (lv' := [(5, .int (1 : Int32)), (0, .ref (w.2.1 (147))), (1, .int x1), (2, .int x2), (3, .int x3), (4, .int x4)]) rfl ?_
      refine g_aload_n (pc := 51) C 1 rfl dX8_hole_51 rfl ?_
      refine g_iload_n (pc := 52) C 2 rfl dX8_hole_52 rfl ?_
      refine g_callV (pc := 53) (rest := []) (g_runV C mv_RX8_290 (fun x1 hx1 => m_X8_begin hx1) so_RX8 rfl (by decide) rfl rfl (Nat.le_of_ble_eq_true rfl) dX8_hole_53) (fun h11 => ?_)
      refine g_iconst (pc := 56) (v := 0) C dX8_hole_56 kc_0 ?_
      refine g_istore (pc := 57) C dX8_hole_57 (by decide) (lv' := [(6, .int (0 : Int32)), (5, .int (1 : Int32)), (0, .ref (w.2.1 (147))), (1, .int x1), (2, .int x2), (3, .int x3), (4, .int x4)]) rfl ?_
      refine g_lv (lv' := [(0, .ref (w.2.1 (147))), (1, .int x1), (2, .int x2), (3, .int x3), (4, .int x4), (5, .int (1 : Int32)), (6, .int (0 : Int32))]) [2, 3, 4, 5, 6, 1, 0] rfl ?_
      exact j_X8_hole_59 C ih KF x1 x2 x3 x4 (1 : Int32) (0 : Int32) h11
def f_X8_hole (h : TT) (x1 : Int32) (x2 : Int32) (x3 : Int32) : Option (Int32 × TT) := (f_X8_isPlace h x1).bind fun r1 => (if r1 = 0 then some ((-1 : Int32), h) else (f_X8_isMany h x2).bind fun r3 => (if r3 = 0 then some ((-1 : Int32), h) else (f_X8_isMany h x3).bind fun r5 => (if r5 = 0 then some ((-1 : Int32), h) else if inb x1 4 = true then (if (h.1 154 x1.toNatClampNeg) = 0 then (f_X8_meets h (1 : Int32)).bind fun q9 => some (q9.1, q9.2) else f_X8_hole_41 KF x1 x2 x3 (0 : Int32) h) else none)))
set_option maxRecDepth 20000 in
theorem m_X8_hole {l : Launch} {w : WK} {h : TT} {x1 : Int32} {x2 : Int32} {x3 : Int32} {x : (Int32 × TT)} (hx : f_X8_hole h x1 x2 x3 = some x)  : Met l yX8_hole (Cond.code yX8_hole cX8_hole 7 (some .int) :: wsG) { frames := 2, cells := 0, slots := 0, locals := 49 } (PG w [.ref (w.2.1 (147)), .int x1, .int x2, .int x3] h) (QG w (fIT x)) 0 0 (AA w) := by
  refine m_entry (own := RX8) (f := fIT) hx (by decide) rfl (Nat.le_of_ble_eq_true rfl) (fun p e s m args below meth c C => ?_)
  show GO p l e _ s m args below meth c w 7 fIT (f_X8_hole h x1 x2 x3) 0 [(0, .ref (w.2.1 (147))), (1, .int x1), (2, .int x2), (3, .int x3)] [] h
  unfold f_X8_hole
  refine g_iload_n (pc := 0) C 1 rfl dX8_hole_0 rfl ?_
  refine g_callI (pc := 1) (rest := []) (g_runS C ms_RX8_136 (fun x1 hx1 => m_X8_isPlace hx1) (by decide) rfl rfl (Nat.le_of_ble_eq_true rfl) dX8_hole_1) (fun r1 => ?_)
  refine g_if_eq (pc := 4) (tgt := 21) C dX8_hole_4 (by decide) (fun hc2 => ?_) (fun hc2 => ?_)
  · refine g_iconst (pc := 21) (v := -1) C dX8_hole_21 kc_m1 ?_
    exact g_iretT C dX8_hole_22
  · refine g_iload_n (pc := 7) C 2 rfl dX8_hole_7 rfl ?_
    refine g_callI (pc := 8) (rest := []) (g_runS C ms_RX8_297 (fun x1 hx1 => m_X8_isMany hx1) (by decide) rfl rfl (Nat.le_of_ble_eq_true rfl) dX8_hole_8) (fun r3 => ?_)
    refine g_if_eq (pc := 11) (tgt := 21) C dX8_hole_11 (by decide) (fun hc4 => ?_) (fun hc4 => ?_)
    · refine g_iconst (pc := 21) (v := -1) C dX8_hole_21 kc_m1 ?_
      exact g_iretT C dX8_hole_22
    · refine g_iload_n (pc := 14) C 3 rfl dX8_hole_14 rfl ?_
      refine g_callI (pc := 15) (rest := []) (g_runS C ms_RX8_297 (fun x1 hx1 => m_X8_isMany hx1) (by decide) rfl rfl (Nat.le_of_ble_eq_true rfl) dX8_hole_15) (fun r5 => ?_)
      refine g_if_ne (pc := 18) (tgt := 23) C dX8_hole_18 (by decide) (fun hc6 => ?_) (fun hc6 => ?_)
      · refine g_iconst (pc := 21) (v := -1) C dX8_hole_21 kc_m1 ?_
        exact g_iretT C dX8_hole_22
      · refine g_aload_n (pc := 23) C 0 rfl dX8_hole_23 rfl ?_
        refine g_get (pc := 24) C so_RX8 10 fl_RX8_29 (v := .ref (w.2.1 (154))) rfl dX8_hole_24 ?_
        refine g_iload_n (pc := 27) C 1 rfl dX8_hole_27 rfl ?_
        refine g_zald (pc := 28) C sz_154 dX8_hole_28 (fun hb7 => ?_)
        refine g_if_ne (pc := 29) (tgt := 38) C dX8_hole_29 (by decide) (fun hc8 => ?_) (fun hc8 => ?_)
        · refine g_aload_n (pc := 32) C 0 rfl dX8_hole_32 rfl ?_
          refine g_iconst (pc := 33) (v := 1) C dX8_hole_33 kc_1 ?_
          refine g_callIT (pc := 34) (rest := []) (g_runV C mv_RX8_85 (fun x1 hx1 => m_X8_meets hx1) so_RX8 rfl (by decide) rfl rfl (Nat.le_of_ble_eq_true rfl) dX8_hole_34) (fun q9 => ?_)
          exact g_iretT C dX8_hole_37
        · refine g_iconst (pc := 38) (v := 0) C dX8_hole_38 kc_0 ?_
          refine g_istore (pc := 39) C dX8_hole_39 (by decide) (lv' := [(4, .int (0 : Int32)), (0, .ref (w.2.1 (147))), (1, .int x1), (2, .int x2), (3, .int x3)]) rfl ?_
          refine g_lv (lv' := [(0, .ref (w.2.1 (147))), (1, .int x1), (2, .int x2), (3, .int x3), (4, .int (0 : Int32))]) [1, 2, 3, 4, 0] rfl ?_
          exact j_X8_hole_41 C KF x1 x2 x3 (0 : Int32) h
