/-- SnowHouse$Build.layNext()V -/
def f_X0_layNext_90 (o0 : Nat)   (h : TT) : Option TT := (f_X0_settle h o0).bind fun h18 => some h18
set_option maxRecDepth 20000 in
theorem j_X0_layNext_90 {p : Program} {l : Launch} {e : Env} {R : Room} {s : State} {m : MethodId} {args : Array Value} {below : List Frame} {meth : Method} {c : Code} {w : WK} (C : CX p R s m args meth c w RX0 cX0_layNext 4 none 3 74)  {o0 : Nat} (ho0 : IsB o0)    (h : TT) : GO p l e R s m args below meth c w 4 fV (f_X0_layNext_90 o0 h) 90 [(0, .ref (w.2.1 (o0)))] [] h := by
  unfold f_X0_layNext_90
  refine g_aload_n (pc := 90) C 0 rfl dX0_layNext_90 rfl ?_
  refine g_callV (pc := 91) (rest := []) (g_runV C mv_RX0_135 (fun x1 hx1 => m_X0_settle hx1 ho0) (so_RX0 ho0) rfl (by decide) rfl rfl (Nat.le_of_ble_eq_true rfl) dX0_layNext_91) (fun h18 => ?_)
  exact g_vret C dX0_layNext_94
def f_X0_layNext (h : TT) (o0 : Nat) : Option TT := (if (h.1 (o0 + 3) 2) ≤ (h.1 o0 4) then some h else (if (h.1 o0 4) < (60 : Int32) then nm (h.1 o0 4) fun y3 => if inb y3 60 = true then nm (h.1 (o0 + 13) y3.toNatClampNeg) fun y5 => if inb y3 60 = true then nm (h.1 (o0 + 14) y3.toNatClampNeg) fun y7 => if inb y3 60 = true then nm (wr h (o0 + 7) y3.toNatClampNeg (1 : Int32)) fun h9 => nm (wr h9 o0 4 ((h9.1 o0 4) + (1 : Int32))) fun h10 => (f_X0_load h10 o0 y3 (1 : Int32)).bind fun h11 => (f_X0_gives h11 o0 y3).bind fun r12 => (if r12 = 0 then (f_X0_gives h11 o0 y5).bind fun r14 => (if r14 = 0 then (f_X0_gives h11 o0 y7).bind fun r16 => (if r16 = 0 then some h11 else f_X0_layNext_90 o0 h11) else f_X0_layNext_90 o0 h11) else f_X0_layNext_90 o0 h11) else none else none else none else some h))
set_option maxRecDepth 20000 in
theorem m_X0_layNext {l : Launch} {w : WK} {h : TT} {o0 : Nat} {x : TT} (hx : f_X0_layNext h o0 = some x) (ho0 : IsB o0) : Met l yX0_layNext (Cond.code yX0_layNext cX0_layNext 4 none :: wsG) { frames := 3, cells := 0, slots := 0, locals := 74 } (PG w [.ref (w.2.1 (o0))] h) (QG w (fV x)) 0 0 (AA w) := by
  refine m_entry (own := RX0) (f := fV) hx (by decide) rfl (Nat.le_of_ble_eq_true rfl) (fun p e s m args below meth c C => ?_)
  show GO p l e _ s m args below meth c w 4 fV (f_X0_layNext h o0) 0 [(0, .ref (w.2.1 (o0)))] [] h
  unfold f_X0_layNext
  refine g_aload_n (pc := 0) C 0 rfl dX0_layNext_0 rfl ?_
  refine g_get (pc := 1) C (so_RX0 ho0) 4 fl_RX0_80 (v := .int (h.1 o0 4)) rfl dX0_layNext_1 ?_
  refine g_aload_n (pc := 4) C 0 rfl dX0_layNext_4 rfl ?_
  refine g_get (pc := 5) C (so_RX0 ho0) 2 fl_RX0_21 (v := .ref (w.2.1 (o0 + 3))) rfl dX0_layNext_5 ?_
  refine g_get (pc := 8) C (so_RX3 (isP_B ho0)) 2 fl_RX0_121 (v := .int (h.1 (o0 + 3) 2)) rfl dX0_layNext_8 ?_
  refine g_icmp_ge (pc := 11) (tgt := 23) C dX0_layNext_11 (by decide) (fun hc1 => ?_) (fun hc1 => ?_)
  · exact g_vret C dX0_layNext_23
  · refine g_aload_n (pc := 14) C 0 rfl dX0_layNext_14 rfl ?_
    refine g_get (pc := 15) C (so_RX0 ho0) 4 fl_RX0_80 (v := .int (h.1 o0 4)) rfl dX0_layNext_15 ?_
    refine g_bipush (pc := 18) (v := 60) C dX0_layNext_18 kb_60 ?_
    refine g_icmp_lt (pc := 20) (tgt := 24) C dX0_layNext_20 (by decide) (fun hc2 => ?_) (fun hc2 => ?_)
    · refine g_aload_n (pc := 24) C 0 rfl dX0_layNext_24 rfl ?_
      refine g_get (pc := 25) C (so_RX0 ho0) 4 fl_RX0_80 (v := .int (h.1 o0 4)) rfl dX0_layNext_25 ?_
      refine g_nmi (fun y3 => ?_)
      refine g_istore_n (pc := 28) C dX0_layNext_28 rfl (by decide) (lv' := [(1, .int y3), (0, .ref (w.2.1 (o0)))]) rfl ?_
      refine g_aload_n (pc := 29) C 1 rfl dX0_layNext_29 rfl ?_
      refine g_get (pc := 30) C (so_RX0 ho0) 13 fl_RX0_48 (v := .ref (w.2.1 (o0 + 13))) rfl dX0_layNext_30 ?_
      refine g_iload_n (pc := 33) C 0 rfl dX0_layNext_33 rfl ?_
      refine g_iald (pc := 34) C (siB13 ho0) dX0_layNext_34 (fun hb4 => ?_)
      refine g_nmi (fun y5 => ?_)
      refine g_istore_n (pc := 35) C dX0_layNext_35 rfl (by decide) (lv' := [(2, .int y5), (1, .int y3), (0, .ref (w.2.1 (o0)))]) rfl ?_
      refine g_aload_n (pc := 36) C 2 rfl dX0_layNext_36 rfl ?_
      refine g_get (pc := 37) C (so_RX0 ho0) 14 fl_RX0_51 (v := .ref (w.2.1 (o0 + 14))) rfl dX0_layNext_37 ?_
      refine g_iload_n (pc := 40) C 1 rfl dX0_layNext_40 rfl ?_
      refine g_iald (pc := 41) C (siB14 ho0) dX0_layNext_41 (fun hb6 => ?_)
      refine g_nmi (fun y7 => ?_)
      refine g_istore_n (pc := 42) C dX0_layNext_42 rfl (by decide) (lv' := [(3, .int y7), (2, .int y5), (1, .int y3), (0, .ref (w.2.1 (o0)))]) rfl ?_
      refine g_aload_n (pc := 43) C 3 rfl dX0_layNext_43 rfl ?_
      refine g_get (pc := 44) C (so_RX0 ho0) 7 fl_RX0_29 (v := .ref (w.2.1 (o0 + 7))) rfl dX0_layNext_44 ?_
      refine g_iload_n (pc := 47) C 2 rfl dX0_layNext_47 rfl ?_
      refine g_iconst (pc := 48) (v := 1) C dX0_layNext_48 kc_1 ?_
      refine g_iast (pc := 49) C (siB7 ho0) dX0_layNext_49 (fun hb8 => ?_)
      refine g_nm (fun h9 => ?_)
      refine g_aload_n (pc := 50) C 3 rfl dX0_layNext_50 rfl ?_
      refine g_dup (pc := 51) C dX0_layNext_51 rfl ?_
      refine g_get (pc := 52) C (so_RX0 ho0) 4 fl_RX0_80 (v := .int (h9.1 o0 4)) rfl dX0_layNext_52 ?_
      refine g_iconst (pc := 55) (v := 1) C dX0_layNext_55 kc_1 ?_
      refine g_iadd (pc := 56) C dX0_layNext_56 ?_
      refine g_putI (pc := 57) C (so_RX0 ho0) 4 fp_RX0_80 (se_RX0_4 _) rfl rfl (sl_RX0_4) dX0_layNext_57 ?_
      refine g_nm (fun h10 => ?_)
      refine g_aload_n (pc := 60) C 3 rfl dX0_layNext_60 rfl ?_
      refine g_iload_n (pc := 61) C 2 rfl dX0_layNext_61 rfl ?_
      refine g_iconst (pc := 62) (v := 1) C dX0_layNext_62 kc_1 ?_
      refine g_callV (pc := 63) (rest := []) (g_runV C mv_RX0_127 (fun x1 hx1 => m_X0_load hx1 ho0) (so_RX0 ho0) rfl (by decide) rfl rfl (Nat.le_of_ble_eq_true rfl) dX0_layNext_63) (fun h11 => ?_)
      refine g_aload_n (pc := 66) C 3 rfl dX0_layNext_66 rfl ?_
      refine g_iload_n (pc := 67) C 2 rfl dX0_layNext_67 rfl ?_
      refine g_callI (pc := 68) (rest := []) (g_runV C mv_RX0_131 (fun x1 hx1 => m_X0_gives hx1 ho0) (so_RX0 ho0) rfl (by decide) rfl rfl (Nat.le_of_ble_eq_true rfl) dX0_layNext_68) (fun r12 => ?_)
      refine g_if_ne (pc := 71) (tgt := 90) C dX0_layNext_71 (by decide) (fun hc13 => ?_) (fun hc13 => ?_)
      · refine g_aload_n (pc := 74) C 3 rfl dX0_layNext_74 rfl ?_
        refine g_iload_n (pc := 75) C 1 rfl dX0_layNext_75 rfl ?_
        refine g_callI (pc := 76) (rest := []) (g_runV C mv_RX0_131 (fun x1 hx1 => m_X0_gives hx1 ho0) (so_RX0 ho0) rfl (by decide) rfl rfl (Nat.le_of_ble_eq_true rfl) dX0_layNext_76) (fun r14 => ?_)
        refine g_if_ne (pc := 79) (tgt := 90) C dX0_layNext_79 (by decide) (fun hc15 => ?_) (fun hc15 => ?_)
        · refine g_aload_n (pc := 82) C 3 rfl dX0_layNext_82 rfl ?_
          refine g_iload_n (pc := 83) C 0 rfl dX0_layNext_83 rfl ?_
          refine g_callI (pc := 84) (rest := []) (g_runV C mv_RX0_131 (fun x1 hx1 => m_X0_gives hx1 ho0) (so_RX0 ho0) rfl (by decide) rfl rfl (Nat.le_of_ble_eq_true rfl) dX0_layNext_84) (fun r16 => ?_)
          refine g_if_eq (pc := 87) (tgt := 94) C dX0_layNext_87 (by decide) (fun hc17 => ?_) (fun hc17 => ?_)
          · exact g_vret C dX0_layNext_94
          · refine g_lv (lv' := [(0, .ref (w.2.1 (o0)))]) [3] rfl ?_
            exact j_X0_layNext_90 C ho0 h11
        · refine g_lv (lv' := [(0, .ref (w.2.1 (o0)))]) [3] rfl ?_
          exact j_X0_layNext_90 C ho0 h11
      · refine g_lv (lv' := [(0, .ref (w.2.1 (o0)))]) [3] rfl ?_
        exact j_X0_layNext_90 C ho0 h11
    · exact g_vret C dX0_layNext_23
/-- SnowHouse.go(I)I -/
def f_X7_go_51   : Nat → Int32 → Int32 → TT → Option (Int32 × TT)
  | 0, _, _, _ => none
  | n + 1, x1, x2, h => (if x1 ≤ x2 then some (h.1 41 4, h) else (f_X0_layNext h 41).bind fun h6 => f_X7_go_51 n x1 (x2 + (1 : Int32)) h6)
set_option maxRecDepth 20000 in
theorem j_X7_go_51 {p : Program} {l : Launch} {e : Env} {R : Room} {s : State} {m : MethodId} {args : Array Value} {below : List Frame} {meth : Method} {c : Code} {w : WK} (C : CX p R s m args meth c w RX7 cX7_go 3 (some .int) 4 97)     : ∀ (n : Nat) (x1 : Int32) (x2 : Int32) (h : TT), GO p l e R s m args below meth c w 3 fIT (f_X7_go_51 n x1 x2 h) 51 [(0, .ref (w.2.1 (0))), (1, .int x1), (2, .int x2)] [] h := by
  intro n
  induction n with
  | zero =>
    intro x1 x2 h
    exact g_none
  | succ n ih =>
    intro x1 x2 h
    rw [f_X7_go_51]
    refine g_iload_n (pc := 51) C 2 rfl dX7_go_51 rfl ?_
    refine g_iload_n (pc := 52) C 1 rfl dX7_go_52 rfl ?_
    refine g_icmp_ge (pc := 53) (tgt := 69) C dX7_go_53 (by decide) (fun hc5 => ?_) (fun hc5 => ?_)
    · refine g_aload_n (pc := 69) C 0 rfl dX7_go_69 rfl ?_
      refine g_get (pc := 70) C so_RX7 6 fl_RX7_49 (v := .ref (w.2.1 (41))) rfl dX7_go_70 ?_
      refine g_get (pc := 73) C (so_RX0 isB41) 4 fl_RX7_190 (v := .int (h.1 41 4)) rfl dX7_go_73 ?_
      exact g_iretT C dX7_go_76
    · refine g_aload_n (pc := 56) C 0 rfl dX7_go_56 rfl ?_
      refine g_get (pc := 57) C so_RX7 6 fl_RX7_49 (v := .ref (w.2.1 (41))) rfl dX7_go_57 ?_
      refine g_callV (pc := 60) (rest := []) (g_runV C mv_RX7_193 (fun x1 hx1 => m_X0_layNext hx1 isB41) (so_RX0 isB41) rfl (by decide) rfl rfl (Nat.le_of_ble_eq_true rfl) dX7_go_60) (fun h6 => ?_)
      refine g_iinc (pc := 63) C 2 rfl dX7_go_63 (ki_1 _) (by decide) (lv' := [(2, .int (x2 + (1 : Int32))), (0, .ref (w.2.1 (0))), (1, .int x1)]) rfl ?_
      refine g_goto (pc := 66) (tgt := 51) C dX7_go_66 (by decide) ?_
      refine g_lv (lv' := [(0, .ref (w.2.1 (0))), (1, .int x1), (2, .int (x2 + (1 : Int32)))]) [1, 2, 0] rfl ?_
      exact ih x1 (x2 + (1 : Int32)) h6
def f_X7_go (h : TT) (x1 : Int32) : Option (Int32 × TT) := (f_X7_isUpTo h x1 (60 : Int32)).bind fun r1 => (if r1 = 0 then some ((-1 : Int32), h) else (if (h.1 41 0) = 0 then some ((-4 : Int32), h) else (if ((h.1 41 4) + x1) ≤ (h.1 (41 + 3) 2) then f_X7_go_51 KF x1 (0 : Int32) h else some ((-6 : Int32), h))))
set_option maxRecDepth 20000 in
theorem m_X7_go {l : Launch} {w : WK} {h : TT} {x1 : Int32} {x : (Int32 × TT)} (hx : f_X7_go h x1 = some x)  : Met l yX7_go (Cond.code yX7_go cX7_go 3 (some .int) :: wsG) { frames := 4, cells := 0, slots := 0, locals := 97 } (PG w [.ref (w.2.1 (0)), .int x1] h) (QG w (fIT x)) 0 0 (AA w) := by
  refine m_entry (own := RX7) (f := fIT) hx (by decide) rfl (Nat.le_of_ble_eq_true rfl) (fun p e s m args below meth c C => ?_)
  show GO p l e _ s m args below meth c w 3 fIT (f_X7_go h x1) 0 [(0, .ref (w.2.1 (0))), (1, .int x1)] [] h
  unfold f_X7_go
  refine g_iload_n (pc := 0) C 1 rfl dX7_go_0 rfl ?_
  refine g_bipush (pc := 1) (v := 60) C dX7_go_1 kb_60 ?_
  refine g_callI (pc := 3) (rest := []) (g_runS C ms_RX7_186 (fun x1 hx1 => m_X7_isUpTo hx1) (by decide) rfl rfl (Nat.le_of_ble_eq_true rfl) dX7_go_3) (fun r1 => ?_)
  refine g_if_ne (pc := 6) (tgt := 11) C dX7_go_6 (by decide) (fun hc2 => ?_) (fun hc2 => ?_)
  · refine g_iconst (pc := 9) (v := -1) C dX7_go_9 kc_m1 ?_
    exact g_iretT C dX7_go_10
  · refine g_aload_n (pc := 11) C 0 rfl dX7_go_11 rfl ?_
    refine g_get (pc := 12) C so_RX7 6 fl_RX7_49 (v := .ref (w.2.1 (41))) rfl dX7_go_12 ?_
    refine g_get (pc := 15) C (so_RX0 isB41) 0 fl_RX7_189 (v := .int (h.1 41 0)) rfl dX7_go_15 ?_
    refine g_if_ne (pc := 18) (tgt := 24) C dX7_go_18 (by decide) (fun hc3 => ?_) (fun hc3 => ?_)
    · refine g_bipush (pc := 21) (v := -4) C dX7_go_21 kb_m4 ?_
      exact g_iretT C dX7_go_23
    · refine g_aload_n (pc := 24) C 0 rfl dX7_go_24 rfl ?_
      refine g_get (pc := 25) C so_RX7 6 fl_RX7_49 (v := .ref (w.2.1 (41))) rfl dX7_go_25 ?_
      refine g_get (pc := 28) C (so_RX0 isB41) 4 fl_RX7_190 (v := .int (h.1 41 4)) rfl dX7_go_28 ?_
      refine g_iload_n (pc := 31) C 1 rfl dX7_go_31 rfl ?_
      refine g_iadd (pc := 32) C dX7_go_32 ?_
      refine g_aload_n (pc := 33) C 0 rfl dX7_go_33 rfl ?_
      refine g_get (pc := 34) C so_RX7 6 fl_RX7_49 (v := .ref (w.2.1 (41))) rfl dX7_go_34 ?_
      refine g_get (pc := 37) C (so_RX0 isB41) 2 fl_RX7_185 (v := .ref (w.2.1 (41 + 3))) rfl dX7_go_37 ?_
      refine g_get (pc := 40) C (so_RX3 (isP_B isB41)) 2 fl_RX7_154 (v := .int (h.1 (41 + 3) 2)) rfl dX7_go_40 ?_
      refine g_icmp_le (pc := 43) (tgt := 49) C dX7_go_43 (by decide) (fun hc4 => ?_) (fun hc4 => ?_)
      · refine g_iconst (pc := 49) (v := 0) C dX7_go_49 kc_0 ?_
        refine g_istore_n (pc := 50) C dX7_go_50 rfl (by decide) (lv' := [(2, .int (0 : Int32)), (0, .ref (w.2.1 (0))), (1, .int x1)]) rfl ?_
        refine g_lv (lv' := [(0, .ref (w.2.1 (0))), (1, .int x1), (2, .int (0 : Int32))]) [1, 2, 0] rfl ?_
        exact j_X7_go_51 C KF x1 (0 : Int32) h
      · refine g_bipush (pc := 46) (v := -6) C dX7_go_46 kb_m6 ?_
        exact g_iretT C dX7_go_48
/-- SnowHouse.isLaid(I)Z -/
def f_X7_isLaid (h : TT) (x1 : Int32) : Option Int32 := (if (h.1 41 0) = 0 then some (0 : Int32) else (f_X7_isBelow h x1 (h.1 41 4)).bind fun r2 => (if r2 = 0 then some (0 : Int32) else some (1 : Int32)))
set_option maxRecDepth 20000 in
theorem m_X7_isLaid {l : Launch} {w : WK} {h : TT} {x1 : Int32} {x : Int32} (hx : f_X7_isLaid h x1 = some x)  : Met l yX7_isLaid (Cond.code yX7_isLaid cX7_isLaid 2 (some .boolean) :: wsG) { frames := 1, cells := 0, slots := 0, locals := 21 } (PG w [.ref (w.2.1 (0)), .int x1] h) (QG w ((fI h) x)) 0 0 (AA w) := by
  refine m_entry (own := RX7) (f := (fI h)) hx (by decide) rfl (Nat.le_of_ble_eq_true rfl) (fun p e s m args below meth c C => ?_)
  show GO p l e _ s m args below meth c w 2 (fI h) (f_X7_isLaid h x1) 0 [(0, .ref (w.2.1 (0))), (1, .int x1)] [] h
  unfold f_X7_isLaid
  refine g_aload_n (pc := 0) C 0 rfl dX7_isLaid_0 rfl ?_
  refine g_get (pc := 1) C so_RX7 6 fl_RX7_49 (v := .ref (w.2.1 (41))) rfl dX7_isLaid_1 ?_
  refine g_get (pc := 4) C (so_RX0 isB41) 0 fl_RX7_189 (v := .int (h.1 41 0)) rfl dX7_isLaid_4 ?_
  refine g_if_eq (pc := 7) (tgt := 28) C dX7_isLaid_7 (by decide) (fun hc1 => ?_) (fun hc1 => ?_)
  · refine g_iconst (pc := 28) (v := 0) C dX7_isLaid_28 kc_0 ?_
    exact g_zret C dX7_isLaid_29 rfl
  · refine g_iload_n (pc := 10) C 1 rfl dX7_isLaid_10 rfl ?_
    refine g_aload_n (pc := 11) C 0 rfl dX7_isLaid_11 rfl ?_
    refine g_get (pc := 12) C so_RX7 6 fl_RX7_49 (v := .ref (w.2.1 (41))) rfl dX7_isLaid_12 ?_
    refine g_get (pc := 15) C (so_RX0 isB41) 4 fl_RX7_190 (v := .int (h.1 41 4)) rfl dX7_isLaid_15 ?_
    refine g_callI (pc := 18) (rest := []) (g_runS C ms_RX7_105 (fun x1 hx1 => m_X7_isBelow hx1) (by decide) rfl rfl (Nat.le_of_ble_eq_true rfl) dX7_isLaid_18) (fun r2 => ?_)
    refine g_if_eq (pc := 21) (tgt := 28) C dX7_isLaid_21 (by decide) (fun hc3 => ?_) (fun hc3 => ?_)
    · refine g_iconst (pc := 28) (v := 0) C dX7_isLaid_28 kc_0 ?_
      exact g_zret C dX7_isLaid_29 rfl
    · refine g_iconst (pc := 24) (v := 1) C dX7_isLaid_24 kc_1 ?_
      refine g_goto (pc := 25) (tgt := 29) C dX7_isLaid_25 (by decide) ?_
      exact g_zret C dX7_isLaid_29 rfl
/-- SnowHouse$Build.kindAtFirst(I)I -/
def f_X0_kindAtFirst (h : TT) (o0 : Nat) (x1 : Int32) : Option Int32 := if inb x1 60 = true then nm (h.1 (o0 + 12) x1.toNatClampNeg) fun y2 => (if y2 = 0 then some (1 : Int32) else if inb y2 8 = true then (if (h.1 (o0 + 3 + 1) y2.toNatClampNeg) = (2 : Int32) then some (2 : Int32) else (if x1 = ((h.1 (o0 + 3) 2) - (1 : Int32)) then if inb y2 8 = true then (if (h.1 (o0 + 3 + 2) y2.toNatClampNeg) = (1 : Int32) then some (4 : Int32) else some (3 : Int32)) else none else some (3 : Int32))) else none) else none
set_option maxRecDepth 20000 in
theorem m_X0_kindAtFirst {l : Launch} {w : WK} {h : TT} {o0 : Nat} {x1 : Int32} {x : Int32} (hx : f_X0_kindAtFirst h o0 x1 = some x) (ho0 : IsB o0) : Met l yX0_kindAtFirst (Cond.code yX0_kindAtFirst cX0_kindAtFirst 3 (some .int) :: wsG) { frames := 0, cells := 0, slots := 0, locals := 0 } (PG w [.ref (w.2.1 (o0)), .int x1] h) (QG w ((fI h) x)) 0 0 (AA w) := by
  refine m_entry (own := RX0) (f := (fI h)) hx (by decide) rfl (Nat.le_of_ble_eq_true rfl) (fun p e s m args below meth c C => ?_)
  show GO p l e _ s m args below meth c w 3 (fI h) (f_X0_kindAtFirst h o0 x1) 0 [(0, .ref (w.2.1 (o0))), (1, .int x1)] [] h
  unfold f_X0_kindAtFirst
  refine g_aload_n (pc := 0) C 0 rfl dX0_kindAtFirst_0 rfl ?_
  refine g_get (pc := 1) C (so_RX0 ho0) 12 fl_RX0_45 (v := .ref (w.2.1 (o0 + 12))) rfl dX0_kindAtFirst_1 ?_
  refine g_iload_n (pc := 4) C 1 rfl dX0_kindAtFirst_4 rfl ?_
  refine g_iald (pc := 5) C (siB12 ho0) dX0_kindAtFirst_5 (fun hb1 => ?_)
  refine g_nmi (fun y2 => ?_)
  refine g_istore_n (pc := 6) C dX0_kindAtFirst_6 rfl (by decide) (lv' := [(2, .int y2), (0, .ref (w.2.1 (o0))), (1, .int x1)]) rfl ?_
  refine g_iload_n (pc := 7) C 0 rfl dX0_kindAtFirst_7 rfl ?_
  refine g_if_ne (pc := 8) (tgt := 13) C dX0_kindAtFirst_8 (by decide) (fun hc3 => ?_) (fun hc3 => ?_)
  · refine g_iconst (pc := 11) (v := 1) C dX0_kindAtFirst_11 kc_1 ?_
    exact g_iret C dX0_kindAtFirst_12
  · refine g_aload_n (pc := 13) C 1 rfl dX0_kindAtFirst_13 rfl ?_
    refine g_get (pc := 14) C (so_RX0 ho0) 2 fl_RX0_21 (v := .ref (w.2.1 (o0 + 3))) rfl dX0_kindAtFirst_14 ?_
    refine g_get (pc := 17) C (so_RX3 (isP_B ho0)) 4 fl_RX0_118 (v := .ref (w.2.1 (o0 + 3 + 1))) rfl dX0_kindAtFirst_17 ?_
    refine g_iload_n (pc := 20) C 0 rfl dX0_kindAtFirst_20 rfl ?_
    refine g_iald (pc := 21) C (siP1 (isP_B ho0)) dX0_kindAtFirst_21 (fun hb4 => ?_)
    refine g_iconst (pc := 22) (v := 2) C dX0_kindAtFirst_22 kc_2 ?_
    refine g_icmp_ne (pc := 23) (tgt := 28) C dX0_kindAtFirst_23 (by decide) (fun hc5 => ?_) (fun hc5 => ?_)
    · refine g_iconst (pc := 26) (v := 2) C dX0_kindAtFirst_26 kc_2 ?_
      exact g_iret C dX0_kindAtFirst_27
    · refine g_iload_n (pc := 28) C 2 rfl dX0_kindAtFirst_28 rfl ?_
      refine g_aload_n (pc := 29) C 1 rfl dX0_kindAtFirst_29 rfl ?_
      refine g_get (pc := 30) C (so_RX0 ho0) 2 fl_RX0_21 (v := .ref (w.2.1 (o0 + 3))) rfl dX0_kindAtFirst_30 ?_
      refine g_get (pc := 33) C (so_RX3 (isP_B ho0)) 2 fl_RX0_121 (v := .int (h.1 (o0 + 3) 2)) rfl dX0_kindAtFirst_33 ?_
      refine g_iconst (pc := 36) (v := 1) C dX0_kindAtFirst_36 kc_1 ?_
      refine g_isub (pc := 37) C dX0_kindAtFirst_37 ?_
      refine g_icmp_ne (pc := 38) (tgt := 58) C dX0_kindAtFirst_38 (by decide) (fun hc6 => ?_) (fun hc6 => ?_)
      · refine g_aload_n (pc := 41) C 1 rfl dX0_kindAtFirst_41 rfl ?_
        refine g_get (pc := 42) C (so_RX0 ho0) 2 fl_RX0_21 (v := .ref (w.2.1 (o0 + 3))) rfl dX0_kindAtFirst_42 ?_
        refine g_get (pc := 45) C (so_RX3 (isP_B ho0)) 5 fl_RX0_101 (v := .ref (w.2.1 (o0 + 3 + 2))) rfl dX0_kindAtFirst_45 ?_
        refine g_iload_n (pc := 48) C 0 rfl dX0_kindAtFirst_48 rfl ?_
        refine g_iald (pc := 49) C (siP2 (isP_B ho0)) dX0_kindAtFirst_49 (fun hb7 => ?_)
        refine g_iconst (pc := 50) (v := 1) C dX0_kindAtFirst_50 kc_1 ?_
        refine g_icmp_ne (pc := 51) (tgt := 58) C dX0_kindAtFirst_51 (by decide) (fun hc8 => ?_) (fun hc8 => ?_)
        · refine g_iconst (pc := 54) (v := 4) C dX0_kindAtFirst_54 kc_4 ?_
          refine g_goto (pc := 55) (tgt := 59) C dX0_kindAtFirst_55 (by decide) ?_
          exact g_iret C dX0_kindAtFirst_59
        · refine g_iconst (pc := 58) (v := 3) C dX0_kindAtFirst_58 kc_3 ?_
          exact g_iret C dX0_kindAtFirst_59
      · refine g_iconst (pc := 58) (v := 3) C dX0_kindAtFirst_58 kc_3 ?_
        exact g_iret C dX0_kindAtFirst_59
/-- SnowHouse$Build.kindOf(I)I -/
def f_X0_kindOf (h : TT) (o0 : Nat) (x1 : Int32) : Option Int32 := if inb x1 60 = true then (if (h.1 (o0 + 7) x1.toNatClampNeg) = (2 : Int32) then some (6 : Int32) else if inb x1 60 = true then (if (h.1 (o0 + 7) x1.toNatClampNeg) = (3 : Int32) then some (5 : Int32) else (f_X0_kindAtFirst h o0 x1).bind fun r5 => some r5) else none) else none
set_option maxRecDepth 20000 in
theorem m_X0_kindOf {l : Launch} {w : WK} {h : TT} {o0 : Nat} {x1 : Int32} {x : Int32} (hx : f_X0_kindOf h o0 x1 = some x) (ho0 : IsB o0) : Met l yX0_kindOf (Cond.code yX0_kindOf cX0_kindOf 2 (some .int) :: wsG) { frames := 1, cells := 0, slots := 0, locals := 22 } (PG w [.ref (w.2.1 (o0)), .int x1] h) (QG w ((fI h) x)) 0 0 (AA w) := by
  refine m_entry (own := RX0) (f := (fI h)) hx (by decide) rfl (Nat.le_of_ble_eq_true rfl) (fun p e s m args below meth c C => ?_)
  show GO p l e _ s m args below meth c w 2 (fI h) (f_X0_kindOf h o0 x1) 0 [(0, .ref (w.2.1 (o0))), (1, .int x1)] [] h
  unfold f_X0_kindOf
  refine g_aload_n (pc := 0) C 0 rfl dX0_kindOf_0 rfl ?_
  refine g_get (pc := 1) C (so_RX0 ho0) 7 fl_RX0_29 (v := .ref (w.2.1 (o0 + 7))) rfl dX0_kindOf_1 ?_
  refine g_iload_n (pc := 4) C 1 rfl dX0_kindOf_4 rfl ?_
  refine g_iald (pc := 5) C (siB7 ho0) dX0_kindOf_5 (fun hb1 => ?_)
  refine g_iconst (pc := 6) (v := 2) C dX0_kindOf_6 kc_2 ?_
  refine g_icmp_ne (pc := 7) (tgt := 13) C dX0_kindOf_7 (by decide) (fun hc2 => ?_) (fun hc2 => ?_)
  · refine g_bipush (pc := 10) (v := 6) C dX0_kindOf_10 kb_6 ?_
    exact g_iret C dX0_kindOf_12
  · refine g_aload_n (pc := 13) C 0 rfl dX0_kindOf_13 rfl ?_
    refine g_get (pc := 14) C (so_RX0 ho0) 7 fl_RX0_29 (v := .ref (w.2.1 (o0 + 7))) rfl dX0_kindOf_14 ?_
    refine g_iload_n (pc := 17) C 1 rfl dX0_kindOf_17 rfl ?_
    refine g_iald (pc := 18) C (siB7 ho0) dX0_kindOf_18 (fun hb3 => ?_)
    refine g_iconst (pc := 19) (v := 3) C dX0_kindOf_19 kc_3 ?_
    refine g_icmp_ne (pc := 20) (tgt := 27) C dX0_kindOf_20 (by decide) (fun hc4 => ?_) (fun hc4 => ?_)
    · refine g_iconst (pc := 23) (v := 5) C dX0_kindOf_23 kc_5 ?_
      refine g_goto (pc := 24) (tgt := 32) C dX0_kindOf_24 (by decide) ?_
      exact g_iret C dX0_kindOf_32
    · refine g_aload_n (pc := 27) C 0 rfl dX0_kindOf_27 rfl ?_
      refine g_iload_n (pc := 28) C 1 rfl dX0_kindOf_28 rfl ?_
      refine g_callI (pc := 29) (rest := []) (g_runV C mv_RX0_164 (fun x1 hx1 => m_X0_kindAtFirst hx1 ho0) (so_RX0 ho0) rfl (by decide) rfl rfl (Nat.le_of_ble_eq_true rfl) dX0_kindOf_29) (fun r5 => ?_)
      exact g_iret C dX0_kindOf_32
/-- SnowHouse$Build.fact(II)I -/
def f_X0_fact (h : TT) (o0 : Nat) (x1 : Int32) (x2 : Int32) : Option Int32 := if inb x1 60 = true then nm (h.1 (o0 + 12) x1.toNatClampNeg) fun y2 => (if x2 = (0 : Int32) then (f_X0_kindOf h o0 x1).bind fun r4 => some r4 else (if x2 = (1 : Int32) then some y2 else (if x2 = (2 : Int32) then if inb y2 8 = true then some (x1 - (h.1 (o0 + 11) y2.toNatClampNeg)) else none else (if x2 = (3 : Int32) then if inb x1 60 = true then some (h.1 (o0 + 13) x1.toNatClampNeg) else none else if inb x1 60 = true then some (h.1 (o0 + 8) x1.toNatClampNeg) else none)))) else none
set_option maxRecDepth 20000 in
theorem m_X0_fact {l : Launch} {w : WK} {h : TT} {o0 : Nat} {x1 : Int32} {x2 : Int32} {x : Int32} (hx : f_X0_fact h o0 x1 x2 = some x) (ho0 : IsB o0) : Met l yX0_fact (Cond.code yX0_fact cX0_fact 4 (some .int) :: wsG) { frames := 2, cells := 0, slots := 0, locals := 43 } (PG w [.ref (w.2.1 (o0)), .int x1, .int x2] h) (QG w ((fI h) x)) 0 0 (AA w) := by
  refine m_entry (own := RX0) (f := (fI h)) hx (by decide) rfl (Nat.le_of_ble_eq_true rfl) (fun p e s m args below meth c C => ?_)
  show GO p l e _ s m args below meth c w 4 (fI h) (f_X0_fact h o0 x1 x2) 0 [(0, .ref (w.2.1 (o0))), (1, .int x1), (2, .int x2)] [] h
  unfold f_X0_fact
  refine g_aload_n (pc := 0) C 0 rfl dX0_fact_0 rfl ?_
  refine g_get (pc := 1) C (so_RX0 ho0) 12 fl_RX0_45 (v := .ref (w.2.1 (o0 + 12))) rfl dX0_fact_1 ?_
  refine g_iload_n (pc := 4) C 1 rfl dX0_fact_4 rfl ?_
  refine g_iald (pc := 5) C (siB12 ho0) dX0_fact_5 (fun hb1 => ?_)
  refine g_nmi (fun y2 => ?_)
  refine g_istore_n (pc := 6) C dX0_fact_6 rfl (by decide) (lv' := [(3, .int y2), (0, .ref (w.2.1 (o0))), (1, .int x1), (2, .int x2)]) rfl ?_
  refine g_iload_n (pc := 7) C 3 rfl dX0_fact_7 rfl ?_
  refine g_ite (fun hc3 => ?_) (fun hc3 => ?_)
  · refine g_tabIn (pc := 8) (tgt := 40) C dX0_fact_8 hc3 (by decide) (by decide) rfl (by decide) ?_
    refine g_aload_n (pc := 40) C 1 rfl dX0_fact_40 rfl ?_
    refine g_iload_n (pc := 41) C 2 rfl dX0_fact_41 rfl ?_
    refine g_callI (pc := 42) (rest := []) (g_runV C mv_RX0_161 (fun x1 hx1 => m_X0_kindOf hx1 ho0) (so_RX0 ho0) rfl (by decide) rfl rfl (Nat.le_of_ble_eq_true rfl) dX0_fact_42) (fun r4 => ?_)
    exact g_iret C dX0_fact_45
  refine g_ite (fun hc5 => ?_) (fun hc5 => ?_)
  · refine g_tabIn (pc := 8) (tgt := 46) C dX0_fact_8 hc5 (by decide) (by decide) rfl (by decide) ?_
    refine g_iload_n (pc := 46) C 0 rfl dX0_fact_46 rfl ?_
    exact g_iret C dX0_fact_47
  refine g_ite (fun hc6 => ?_) (fun hc6 => ?_)
  · refine g_tabIn (pc := 8) (tgt := 48) C dX0_fact_8 hc6 (by decide) (by decide) rfl (by decide) ?_
    refine g_iload_n (pc := 48) C 2 rfl dX0_fact_48 rfl ?_
    refine g_aload_n (pc := 49) C 1 rfl dX0_fact_49 rfl ?_
    refine g_get (pc := 50) C (so_RX0 ho0) 11 fl_RX0_42 (v := .ref (w.2.1 (o0 + 11))) rfl dX0_fact_50 ?_
    refine g_iload_n (pc := 53) C 0 rfl dX0_fact_53 rfl ?_
    refine g_iald (pc := 54) C (siB11 ho0) dX0_fact_54 (fun hb7 => ?_)
    refine g_isub (pc := 55) C dX0_fact_55 ?_
    exact g_iret C dX0_fact_56
  refine g_ite (fun hc8 => ?_) (fun hc8 => ?_)
  · refine g_tabIn (pc := 8) (tgt := 57) C dX0_fact_8 hc8 (by decide) (by decide) rfl (by decide) ?_
    refine g_aload_n (pc := 57) C 1 rfl dX0_fact_57 rfl ?_
    refine g_get (pc := 58) C (so_RX0 ho0) 13 fl_RX0_48 (v := .ref (w.2.1 (o0 + 13))) rfl dX0_fact_58 ?_
    refine g_iload_n (pc := 61) C 2 rfl dX0_fact_61 rfl ?_
    refine g_iald (pc := 62) C (siB13 ho0) dX0_fact_62 (fun hb9 => ?_)
    exact g_iret C dX0_fact_63
  refine g_tabOut (pc := 8) (tgt := 64) C dX0_fact_8 (tab_out (by decide) (by decide) (fun j h1 h2 => ?_)) (by decide) ?_
  · rcases tab_0_3 h1 h2 with e | e | e | e <;> subst e <;> assumption
  · refine g_aload_n (pc := 64) C 1 rfl dX0_fact_64 rfl ?_
    refine g_get (pc := 65) C (so_RX0 ho0) 8 fl_RX0_33 (v := .ref (w.2.1 (o0 + 8))) rfl dX0_fact_65 ?_
    refine g_iload_n (pc := 68) C 2 rfl dX0_fact_68 rfl ?_
    refine g_iald (pc := 69) C (siB8 ho0) dX0_fact_69 (fun hb10 => ?_)
    exact g_iret C dX0_fact_70
/-- SnowHouse.block(II)I -/
def f_X7_block (h : TT) (x1 : Int32) (x2 : Int32) : Option (Int32 × TT) := (f_X7_isLaid h x1).bind fun r1 => (if r1 = 0 then some ((-1 : Int32), h) else (f_X7_isBelow h x2 (5 : Int32)).bind fun r3 => (if r3 = 0 then some ((-1 : Int32), h) else (f_X0_fact h 41 x1 x2).bind fun r5 => (f_X7_tell h r5).bind fun q6 => some (q6.1, q6.2)))
set_option maxRecDepth 20000 in
theorem m_X7_block {l : Launch} {w : WK} {h : TT} {x1 : Int32} {x2 : Int32} {x : (Int32 × TT)} (hx : f_X7_block h x1 x2 = some x)  : Met l yX7_block (Cond.code yX7_block cX7_block 3 (some .int) :: wsG) { frames := 3, cells := 0, slots := 0, locals := 66 } (PG w [.ref (w.2.1 (0)), .int x1, .int x2] h) (QG w (fIT x)) 0 0 (AA w) := by
  refine m_entry (own := RX7) (f := fIT) hx (by decide) rfl (Nat.le_of_ble_eq_true rfl) (fun p e s m args below meth c C => ?_)
  show GO p l e _ s m args below meth c w 3 fIT (f_X7_block h x1 x2) 0 [(0, .ref (w.2.1 (0))), (1, .int x1), (2, .int x2)] [] h
  unfold f_X7_block
  refine g_aload_n (pc := 0) C 0 rfl dX7_block_0 rfl ?_
  refine g_iload_n (pc := 1) C 1 rfl dX7_block_1 rfl ?_
  refine g_callI (pc := 2) (rest := []) (g_runV C mv_RX7_196 (fun x1 hx1 => m_X7_isLaid hx1) so_RX7 rfl (by decide) rfl rfl (Nat.le_of_ble_eq_true rfl) dX7_block_2) (fun r1 => ?_)
  refine g_if_eq (pc := 5) (tgt := 16) C dX7_block_5 (by decide) (fun hc2 => ?_) (fun hc2 => ?_)
  · refine g_iconst (pc := 16) (v := -1) C dX7_block_16 kc_m1 ?_
    exact g_iretT C dX7_block_17
  · refine g_iload_n (pc := 8) C 2 rfl dX7_block_8 rfl ?_
    refine g_iconst (pc := 9) (v := 5) C dX7_block_9 kc_5 ?_
    refine g_callI (pc := 10) (rest := []) (g_runS C ms_RX7_105 (fun x1 hx1 => m_X7_isBelow hx1) (by decide) rfl rfl (Nat.le_of_ble_eq_true rfl) dX7_block_10) (fun r3 => ?_)
    refine g_if_ne (pc := 13) (tgt := 18) C dX7_block_13 (by decide) (fun hc4 => ?_) (fun hc4 => ?_)
    · refine g_iconst (pc := 16) (v := -1) C dX7_block_16 kc_m1 ?_
      exact g_iretT C dX7_block_17
    · refine g_aload_n (pc := 18) C 0 rfl dX7_block_18 rfl ?_
      refine g_aload_n (pc := 19) C 0 rfl dX7_block_19 rfl ?_
      refine g_get (pc := 20) C so_RX7 6 fl_RX7_49 (v := .ref (w.2.1 (41))) rfl dX7_block_20 ?_
      refine g_iload_n (pc := 23) C 1 rfl dX7_block_23 rfl ?_
      refine g_iload_n (pc := 24) C 2 rfl dX7_block_24 rfl ?_
      refine g_callI (pc := 25) (rest := [.ref (w.2.1 (0))]) (g_runV C mv_RX7_199 (fun x1 hx1 => m_X0_fact hx1 isB41) (so_RX0 isB41) rfl (by decide) rfl rfl (Nat.le_of_ble_eq_true rfl) dX7_block_25) (fun r5 => ?_)
      refine g_callIT (pc := 28) (rest := []) (g_runV C mv_RX7_113 (fun x1 hx1 => m_X7_tell hx1) so_RX7 rfl (by decide) rfl rfl (Nat.le_of_ble_eq_true rfl) dX7_block_28) (fun q6 => ?_)
      exact g_iretT C dX7_block_31
/-- SnowHouse.pull(I)I -/
def f_X7_pull (h : TT) (x1 : Int32) : Option (Int32 × TT) := (f_X7_isLaid h x1).bind fun r1 => (if r1 = 0 then some ((-1 : Int32), h) else (f_X0_holdOf h 41 x1).bind fun r3 => nm (wr h 0 13 r3) fun h4 => (f_X0_pullOf h4 41 x1).bind fun r5 => some (r5, h4))
set_option maxRecDepth 20000 in
theorem m_X7_pull {l : Launch} {w : WK} {h : TT} {x1 : Int32} {x : (Int32 × TT)} (hx : f_X7_pull h x1 = some x)  : Met l yX7_pull (Cond.code yX7_pull cX7_pull 2 (some .int) :: wsG) { frames := 2, cells := 0, slots := 0, locals := 42 } (PG w [.ref (w.2.1 (0)), .int x1] h) (QG w (fIT x)) 0 0 (AA w) := by
  refine m_entry (own := RX7) (f := fIT) hx (by decide) rfl (Nat.le_of_ble_eq_true rfl) (fun p e s m args below meth c C => ?_)
  show GO p l e _ s m args below meth c w 2 fIT (f_X7_pull h x1) 0 [(0, .ref (w.2.1 (0))), (1, .int x1)] [] h
  unfold f_X7_pull
  refine g_aload_n (pc := 0) C 0 rfl dX7_pull_0 rfl ?_
  refine g_iload_n (pc := 1) C 1 rfl dX7_pull_1 rfl ?_
  refine g_callI (pc := 2) (rest := []) (g_runV C mv_RX7_196 (fun x1 hx1 => m_X7_isLaid hx1) so_RX7 rfl (by decide) rfl rfl (Nat.le_of_ble_eq_true rfl) dX7_pull_2) (fun r1 => ?_)
  refine g_if_ne (pc := 5) (tgt := 10) C dX7_pull_5 (by decide) (fun hc2 => ?_) (fun hc2 => ?_)
  · refine g_iconst (pc := 8) (v := -1) C dX7_pull_8 kc_m1 ?_
    exact g_iretT C dX7_pull_9
  · refine g_aload_n (pc := 10) C 0 rfl dX7_pull_10 rfl ?_
    refine g_aload_n (pc := 11) C 0 rfl dX7_pull_11 rfl ?_
    refine g_get (pc := 12) C so_RX7 6 fl_RX7_49 (v := .ref (w.2.1 (41))) rfl dX7_pull_12 ?_
    refine g_iload_n (pc := 15) C 1 rfl dX7_pull_15 rfl ?_
    refine g_callI (pc := 16) (rest := [.ref (w.2.1 (0))]) (g_runV C mv_RX7_202 (fun x1 hx1 => m_X0_holdOf hx1 isB41) (so_RX0 isB41) rfl (by decide) rfl rfl (Nat.le_of_ble_eq_true rfl) dX7_pull_16) (fun r3 => ?_)
    refine g_putI (pc := 19) C so_RX7 13 fp_RX7_88 (se_RX7_13 _) rfl rfl (sl_RX7_13) dX7_pull_19 ?_
    refine g_nm (fun h4 => ?_)
    refine g_aload_n (pc := 22) C 0 rfl dX7_pull_22 rfl ?_
    refine g_get (pc := 23) C so_RX7 6 fl_RX7_49 (v := .ref (w.2.1 (41))) rfl dX7_pull_23 ?_
    refine g_iload_n (pc := 26) C 1 rfl dX7_pull_26 rfl ?_
    refine g_callI (pc := 27) (rest := []) (g_runV C mv_RX7_205 (fun x1 hx1 => m_X0_pullOf hx1 isB41) (so_RX0 isB41) rfl (by decide) rfl rfl (Nat.le_of_ble_eq_true rfl) dX7_pull_27) (fun r5 => ?_)
    exact g_iretT C dX7_pull_30
/-- SnowHouse$Build.isOf(II)Z -/
def f_X0_isOf_31 (h : TT) (o0 : Nat)   : Option Int32 := some (1 : Int32)
set_option maxRecDepth 20000 in
theorem j_X0_isOf_31 {p : Program} {l : Launch} {e : Env} {R : Room} {s : State} {m : MethodId} {args : Array Value} {below : List Frame} {meth : Method} {c : Code} {w : WK} (C : CX p R s m args meth c w RX0 cX0_isOf 4 (some .boolean) 2 43) (h : TT) {o0 : Nat} (ho0 : IsB o0)    : GO p l e R s m args below meth c w 4 (fI h) (f_X0_isOf_31 h o0) 31 [] [] h := by
  unfold f_X0_isOf_31
  refine g_iconst (pc := 31) (v := 1) C dX0_isOf_31 kc_1 ?_
  refine g_goto (pc := 32) (tgt := 36) C dX0_isOf_32 (by decide) ?_
  exact g_zret C dX0_isOf_36 rfl
def f_X0_isOf_21 (h : TT) (o0 : Nat)  (x2 : Int32) (x3 : Int32) : Option Int32 := (if x3 = (5 : Int32) then (if x2 = (1 : Int32) then f_X0_isOf_31 h o0 else some (0 : Int32)) else some (0 : Int32))
set_option maxRecDepth 20000 in
theorem j_X0_isOf_21 {p : Program} {l : Launch} {e : Env} {R : Room} {s : State} {m : MethodId} {args : Array Value} {below : List Frame} {meth : Method} {c : Code} {w : WK} (C : CX p R s m args meth c w RX0 cX0_isOf 4 (some .boolean) 2 43) (h : TT) {o0 : Nat} (ho0 : IsB o0)  (x2 : Int32) (x3 : Int32)  : GO p l e R s m args below meth c w 4 (fI h) (f_X0_isOf_21 h o0 x2 x3) 21 [(2, .int x2), (3, .int x3)] [] h := by
  unfold f_X0_isOf_21
  refine g_iload_n (pc := 21) C 1 rfl dX0_isOf_21 rfl ?_
  refine g_iconst (pc := 22) (v := 5) C dX0_isOf_22 kc_5 ?_
  refine g_icmp_ne (pc := 23) (tgt := 35) C dX0_isOf_23 (by decide) (fun hc5 => ?_) (fun hc5 => ?_)
  · refine g_iload_n (pc := 26) C 0 rfl dX0_isOf_26 rfl ?_
    refine g_iconst (pc := 27) (v := 1) C dX0_isOf_27 kc_1 ?_
    refine g_icmp_ne (pc := 28) (tgt := 35) C dX0_isOf_28 (by decide) (fun hc6 => ?_) (fun hc6 => ?_)
    · refine g_lv (lv' := []) [] rfl ?_
      exact j_X0_isOf_31 C h ho0
    · refine g_iconst (pc := 35) (v := 0) C dX0_isOf_35 kc_0 ?_
      exact g_zret C dX0_isOf_36 rfl
  · refine g_iconst (pc := 35) (v := 0) C dX0_isOf_35 kc_0 ?_
    exact g_zret C dX0_isOf_36 rfl
def f_X0_isOf (h : TT) (o0 : Nat) (x1 : Int32) (x2 : Int32) : Option Int32 := (f_X0_kindOf h o0 x1).bind fun r1 => (if r1 = x2 then f_X0_isOf_31 h o0 else (if r1 = (4 : Int32) then (if x2 = (3 : Int32) then f_X0_isOf_31 h o0 else f_X0_isOf_21 h o0 x2 r1) else f_X0_isOf_21 h o0 x2 r1))
set_option maxRecDepth 20000 in
theorem m_X0_isOf {l : Launch} {w : WK} {h : TT} {o0 : Nat} {x1 : Int32} {x2 : Int32} {x : Int32} (hx : f_X0_isOf h o0 x1 x2 = some x) (ho0 : IsB o0) : Met l yX0_isOf (Cond.code yX0_isOf cX0_isOf 4 (some .boolean) :: wsG) { frames := 2, cells := 0, slots := 0, locals := 43 } (PG w [.ref (w.2.1 (o0)), .int x1, .int x2] h) (QG w ((fI h) x)) 0 0 (AA w) := by
  refine m_entry (own := RX0) (f := (fI h)) hx (by decide) rfl (Nat.le_of_ble_eq_true rfl) (fun p e s m args below meth c C => ?_)
  show GO p l e _ s m args below meth c w 4 (fI h) (f_X0_isOf h o0 x1 x2) 0 [(0, .ref (w.2.1 (o0))), (1, .int x1), (2, .int x2)] [] h
  unfold f_X0_isOf
  refine g_aload_n (pc := 0) C 0 rfl dX0_isOf_0 rfl ?_
  refine g_iload_n (pc := 1) C 1 rfl dX0_isOf_1 rfl ?_
  refine g_callI (pc := 2) (rest := []) (g_runV C mv_RX0_161 (fun x1 hx1 => m_X0_kindOf hx1 ho0) (so_RX0 ho0) rfl (by decide) rfl rfl (Nat.le_of_ble_eq_true rfl) dX0_isOf_2) (fun r1 => ?_)
  refine g_istore_n (pc := 5) C dX0_isOf_5 rfl (by decide) (lv' := [(3, .int r1), (0, .ref (w.2.1 (o0))), (1, .int x1), (2, .int x2)]) rfl ?_
  refine g_iload_n (pc := 6) C 0 rfl dX0_isOf_6 rfl ?_
  refine g_iload_n (pc := 7) C 3 rfl dX0_isOf_7 rfl ?_
  refine g_icmp_eq (pc := 8) (tgt := 31) C dX0_isOf_8 (by decide) (fun hc2 => ?_) (fun hc2 => ?_)
  · refine g_lv (lv' := []) [] rfl ?_
    exact j_X0_isOf_31 C h ho0
  · refine g_iload_n (pc := 11) C 0 rfl dX0_isOf_11 rfl ?_
    refine g_iconst (pc := 12) (v := 4) C dX0_isOf_12 kc_4 ?_
    refine g_icmp_ne (pc := 13) (tgt := 21) C dX0_isOf_13 (by decide) (fun hc3 => ?_) (fun hc3 => ?_)
    · refine g_iload_n (pc := 16) C 3 rfl dX0_isOf_16 rfl ?_
      refine g_iconst (pc := 17) (v := 3) C dX0_isOf_17 kc_3 ?_
      refine g_icmp_eq (pc := 18) (tgt := 31) C dX0_isOf_18 (by decide) (fun hc4 => ?_) (fun hc4 => ?_)
      · refine g_lv (lv' := []) [] rfl ?_
        exact j_X0_isOf_31 C h ho0
      · refine g_lv (lv' := [(2, .int x2), (3, .int r1)]) [3, 0] rfl ?_
        exact j_X0_isOf_21 C h ho0 x2 r1
    · refine g_lv (lv' := [(2, .int x2), (3, .int r1)]) [3, 0] rfl ?_
      exact j_X0_isOf_21 C h ho0 x2 r1
/-- SnowHouse$Build.markOf(II)I -/
def f_X0_markOf (h : TT) (o0 : Nat) (x1 : Int32) (x2 : Int32) : Option Int32 := (if x2 = (1 : Int32) then some x1 else (if x2 = (2 : Int32) then some (x1 - (1 : Int32)) else (if x2 = (3 : Int32) then if inb x1 60 = true then if inb (h.1 (o0 + 12) x1.toNatClampNeg) 8 = true then some (h.1 (o0 + 3 + 3) (h.1 (o0 + 12) x1.toNatClampNeg).toNatClampNeg) else none else none else (if x2 = (4 : Int32) then if inb x1 60 = true then if inb x1 60 = true then (if (h.1 (o0 + 13) x1.toNatClampNeg) = (h.1 (o0 + 14) x1.toNatClampNeg) then some (1 : Int32) else some (2 : Int32)) else none else none else (if x2 = (5 : Int32) then if inb x1 60 = true then some (h.1 (o0 + 9) x1.toNatClampNeg) else none else (f_X0_kindAtFirst h o0 x1).bind fun r12 => some r12)))))
set_option maxRecDepth 20000 in
theorem m_X0_markOf {l : Launch} {w : WK} {h : TT} {o0 : Nat} {x1 : Int32} {x2 : Int32} {x : Int32} (hx : f_X0_markOf h o0 x1 x2 = some x) (ho0 : IsB o0) : Met l yX0_markOf (Cond.code yX0_markOf cX0_markOf 3 (some .int) :: wsG) { frames := 1, cells := 0, slots := 0, locals := 22 } (PG w [.ref (w.2.1 (o0)), .int x1, .int x2] h) (QG w ((fI h) x)) 0 0 (AA w) := by
  refine m_entry (own := RX0) (f := (fI h)) hx (by decide) rfl (Nat.le_of_ble_eq_true rfl) (fun p e s m args below meth c C => ?_)
  show GO p l e _ s m args below meth c w 3 (fI h) (f_X0_markOf h o0 x1 x2) 0 [(0, .ref (w.2.1 (o0))), (1, .int x1), (2, .int x2)] [] h
  unfold f_X0_markOf
  refine g_iload_n (pc := 0) C 2 rfl dX0_markOf_0 rfl ?_
  refine g_ite (fun hc1 => ?_) (fun hc1 => ?_)
  · refine g_tabIn (pc := 1) (tgt := 36) C dX0_markOf_1 hc1 (by decide) (by decide) rfl (by decide) ?_
    refine g_iload_n (pc := 36) C 1 rfl dX0_markOf_36 rfl ?_
    exact g_iret C dX0_markOf_37
  refine g_ite (fun hc2 => ?_) (fun hc2 => ?_)
  · refine g_tabIn (pc := 1) (tgt := 38) C dX0_markOf_1 hc2 (by decide) (by decide) rfl (by decide) ?_
    refine g_iload_n (pc := 38) C 1 rfl dX0_markOf_38 rfl ?_
    refine g_iconst (pc := 39) (v := 1) C dX0_markOf_39 kc_1 ?_
    refine g_isub (pc := 40) C dX0_markOf_40 ?_
    exact g_iret C dX0_markOf_41
  refine g_ite (fun hc3 => ?_) (fun hc3 => ?_)
  · refine g_tabIn (pc := 1) (tgt := 42) C dX0_markOf_1 hc3 (by decide) (by decide) rfl (by decide) ?_
    refine g_aload_n (pc := 42) C 0 rfl dX0_markOf_42 rfl ?_
    refine g_get (pc := 43) C (so_RX0 ho0) 2 fl_RX0_21 (v := .ref (w.2.1 (o0 + 3))) rfl dX0_markOf_43 ?_
    refine g_get (pc := 46) C (so_RX3 (isP_B ho0)) 6 fl_RX0_152 (v := .ref (w.2.1 (o0 + 3 + 3))) rfl dX0_markOf_46 ?_
    refine g_aload_n (pc := 49) C 0 rfl dX0_markOf_49 rfl ?_
    refine g_get (pc := 50) C (so_RX0 ho0) 12 fl_RX0_45 (v := .ref (w.2.1 (o0 + 12))) rfl dX0_markOf_50 ?_
    refine g_iload_n (pc := 53) C 1 rfl dX0_markOf_53 rfl ?_
    refine g_iald (pc := 54) C (siB12 ho0) dX0_markOf_54 (fun hb4 => ?_)
    refine g_iald (pc := 55) C (siP3 (isP_B ho0)) dX0_markOf_55 (fun hb5 => ?_)
    exact g_iret C dX0_markOf_56
  refine g_ite (fun hc6 => ?_) (fun hc6 => ?_)
  · refine g_tabIn (pc := 1) (tgt := 57) C dX0_markOf_1 hc6 (by decide) (by decide) rfl (by decide) ?_
    refine g_aload_n (pc := 57) C 0 rfl dX0_markOf_57 rfl ?_
    refine g_get (pc := 58) C (so_RX0 ho0) 13 fl_RX0_48 (v := .ref (w.2.1 (o0 + 13))) rfl dX0_markOf_58 ?_
    refine g_iload_n (pc := 61) C 1 rfl dX0_markOf_61 rfl ?_
    refine g_iald (pc := 62) C (siB13 ho0) dX0_markOf_62 (fun hb7 => ?_)
    refine g_aload_n (pc := 63) C 0 rfl dX0_markOf_63 rfl ?_
    refine g_get (pc := 64) C (so_RX0 ho0) 14 fl_RX0_51 (v := .ref (w.2.1 (o0 + 14))) rfl dX0_markOf_64 ?_
    refine g_iload_n (pc := 67) C 1 rfl dX0_markOf_67 rfl ?_
    refine g_iald (pc := 68) C (siB14 ho0) dX0_markOf_68 (fun hb8 => ?_)
    refine g_icmp_ne (pc := 69) (tgt := 76) C dX0_markOf_69 (by decide) (fun hc9 => ?_) (fun hc9 => ?_)
    · refine g_iconst (pc := 72) (v := 1) C dX0_markOf_72 kc_1 ?_
      refine g_goto (pc := 73) (tgt := 77) C dX0_markOf_73 (by decide) ?_
      exact g_iret C dX0_markOf_77
    · refine g_iconst (pc := 76) (v := 2) C dX0_markOf_76 kc_2 ?_
      exact g_iret C dX0_markOf_77
  refine g_ite (fun hc10 => ?_) (fun hc10 => ?_)
  · refine g_tabIn (pc := 1) (tgt := 78) C dX0_markOf_1 hc10 (by decide) (by decide) rfl (by decide) ?_
    refine g_aload_n (pc := 78) C 0 rfl dX0_markOf_78 rfl ?_
    refine g_get (pc := 79) C (so_RX0 ho0) 9 fl_RX0_36 (v := .ref (w.2.1 (o0 + 9))) rfl dX0_markOf_79 ?_
    refine g_iload_n (pc := 82) C 1 rfl dX0_markOf_82 rfl ?_
    refine g_iald (pc := 83) C (siB9 ho0) dX0_markOf_83 (fun hb11 => ?_)
    exact g_iret C dX0_markOf_84
  refine g_tabOut (pc := 1) (tgt := 85) C dX0_markOf_1 (tab_out (by decide) (by decide) (fun j h1 h2 => ?_)) (by decide) ?_
  · rcases tab_1_5 h1 h2 with e | e | e | e | e <;> subst e <;> assumption
  · refine g_aload_n (pc := 85) C 0 rfl dX0_markOf_85 rfl ?_
    refine g_iload_n (pc := 86) C 1 rfl dX0_markOf_86 rfl ?_
    refine g_callI (pc := 87) (rest := []) (g_runV C mv_RX0_164 (fun x1 hx1 => m_X0_kindAtFirst hx1 ho0) (so_RX0 ho0) rfl (by decide) rfl rfl (Nat.le_of_ble_eq_true rfl) dX0_markOf_87) (fun r12 => ?_)
    exact g_iret C dX0_markOf_90
/-- SnowHouse.mark(II)I -/
def f_X7_mark (h : TT) (x1 : Int32) (x2 : Int32) : Option (Int32 × TT) := (f_X7_isLaid h x1).bind fun r1 => (if r1 = 0 then some ((-1 : Int32), h) else (if x2 < (1 : Int32) then some ((-1 : Int32), h) else (if x2 ≤ (6 : Int32) then (f_X0_isOf h 41 x1 x2).bind fun r5 => (if r5 = 0 then (f_X7_found h (3 : Int32)).bind fun q7 => some (q7.1, q7.2) else (f_X0_markOf h 41 x1 x2).bind fun r8 => some (r8, h)) else some ((-1 : Int32), h))))
set_option maxRecDepth 20000 in
theorem m_X7_mark {l : Launch} {w : WK} {h : TT} {x1 : Int32} {x2 : Int32} {x : (Int32 × TT)} (hx : f_X7_mark h x1 x2 = some x)  : Met l yX7_mark (Cond.code yX7_mark cX7_mark 3 (some .int) :: wsG) { frames := 3, cells := 0, slots := 0, locals := 66 } (PG w [.ref (w.2.1 (0)), .int x1, .int x2] h) (QG w (fIT x)) 0 0 (AA w) := by
  refine m_entry (own := RX7) (f := fIT) hx (by decide) rfl (Nat.le_of_ble_eq_true rfl) (fun p e s m args below meth c C => ?_)
  show GO p l e _ s m args below meth c w 3 fIT (f_X7_mark h x1 x2) 0 [(0, .ref (w.2.1 (0))), (1, .int x1), (2, .int x2)] [] h
  unfold f_X7_mark
  refine g_aload_n (pc := 0) C 0 rfl dX7_mark_0 rfl ?_
  refine g_iload_n (pc := 1) C 1 rfl dX7_mark_1 rfl ?_
  refine g_callI (pc := 2) (rest := []) (g_runV C mv_RX7_196 (fun x1 hx1 => m_X7_isLaid hx1) so_RX7 rfl (by decide) rfl rfl (Nat.le_of_ble_eq_true rfl) dX7_mark_2) (fun r1 => ?_)
  refine g_if_eq (pc := 5) (tgt := 19) C dX7_mark_5 (by decide) (fun hc2 => ?_) (fun hc2 => ?_)
  · refine g_iconst (pc := 19) (v := -1) C dX7_mark_19 kc_m1 ?_
    exact g_iretT C dX7_mark_20
  · refine g_iload_n (pc := 8) C 2 rfl dX7_mark_8 rfl ?_
    refine g_iconst (pc := 9) (v := 1) C dX7_mark_9 kc_1 ?_
    refine g_icmp_lt (pc := 10) (tgt := 19) C dX7_mark_10 (by decide) (fun hc3 => ?_) (fun hc3 => ?_)
    · refine g_iconst (pc := 19) (v := -1) C dX7_mark_19 kc_m1 ?_
      exact g_iretT C dX7_mark_20
    · refine g_iload_n (pc := 13) C 2 rfl dX7_mark_13 rfl ?_
      refine g_bipush (pc := 14) (v := 6) C dX7_mark_14 kb_6 ?_
      refine g_icmp_le (pc := 16) (tgt := 21) C dX7_mark_16 (by decide) (fun hc4 => ?_) (fun hc4 => ?_)
      · refine g_aload_n (pc := 21) C 0 rfl dX7_mark_21 rfl ?_
        refine g_get (pc := 22) C so_RX7 6 fl_RX7_49 (v := .ref (w.2.1 (41))) rfl dX7_mark_22 ?_
        refine g_iload_n (pc := 25) C 1 rfl dX7_mark_25 rfl ?_
        refine g_iload_n (pc := 26) C 2 rfl dX7_mark_26 rfl ?_
        refine g_callI (pc := 27) (rest := []) (g_runV C mv_RX7_208 (fun x1 hx1 => m_X0_isOf hx1 isB41) (so_RX0 isB41) rfl (by decide) rfl rfl (Nat.le_of_ble_eq_true rfl) dX7_mark_27) (fun r5 => ?_)
        refine g_if_ne (pc := 30) (tgt := 39) C dX7_mark_30 (by decide) (fun hc6 => ?_) (fun hc6 => ?_)
        · refine g_aload_n (pc := 33) C 0 rfl dX7_mark_33 rfl ?_
          refine g_iconst (pc := 34) (v := 3) C dX7_mark_34 kc_3 ?_
          refine g_callIT (pc := 35) (rest := []) (g_runV C mv_RX7_109 (fun x1 hx1 => m_X7_found hx1) so_RX7 rfl (by decide) rfl rfl (Nat.le_of_ble_eq_true rfl) dX7_mark_35) (fun q7 => ?_)
          exact g_iretT C dX7_mark_38
        · refine g_aload_n (pc := 39) C 0 rfl dX7_mark_39 rfl ?_
          refine g_get (pc := 40) C so_RX7 6 fl_RX7_49 (v := .ref (w.2.1 (41))) rfl dX7_mark_40 ?_
          refine g_iload_n (pc := 43) C 1 rfl dX7_mark_43 rfl ?_
          refine g_iload_n (pc := 44) C 2 rfl dX7_mark_44 rfl ?_
          refine g_callI (pc := 45) (rest := []) (g_runV C mv_RX7_211 (fun x1 hx1 => m_X0_markOf hx1 isB41) (so_RX0 isB41) rfl (by decide) rfl rfl (Nat.le_of_ble_eq_true rfl) dX7_mark_45) (fun r8 => ?_)
          exact g_iretT C dX7_mark_48
      · refine g_iconst (pc := 19) (v := -1) C dX7_mark_19 kc_m1 ?_
        exact g_iretT C dX7_mark_20
/-- SnowHouse$Build.cutOut(I)V -/
def f_X0_cutOut (h : TT) (o0 : Nat) (x1 : Int32) : Option TT := (f_X7_isBelow h x1 (h.1 o0 4)).bind fun r1 => (if r1 = 0 then some h else if inb x1 60 = true then nm (wr h (o0 + 7) x1.toNatClampNeg (3 : Int32)) fun h4 => nm (wr h4 o0 6 x1) fun h5 => if inb x1 60 = true then if inb (h5.1 (o0 + 12) x1.toNatClampNeg) 8 = true then if inb (h5.1 (o0 + 12) x1.toNatClampNeg) 8 = true then nm (wr h5 (o0 + 10) (h5.1 (o0 + 12) x1.toNatClampNeg).toNatClampNeg ((h5.1 (o0 + 10) (h5.1 (o0 + 12) x1.toNatClampNeg).toNatClampNeg) + (1 : Int32))) fun h9 => (f_X0_settle h9 o0).bind fun h10 => some h10 else none else none else none else none)
set_option maxRecDepth 20000 in
theorem m_X0_cutOut {l : Launch} {w : WK} {h : TT} {o0 : Nat} {x1 : Int32} {x : TT} (hx : f_X0_cutOut h o0 x1 = some x) (ho0 : IsB o0) : Met l yX0_cutOut (Cond.code yX0_cutOut cX0_cutOut 2 none :: wsG) { frames := 3, cells := 0, slots := 0, locals := 74 } (PG w [.ref (w.2.1 (o0)), .int x1] h) (QG w (fV x)) 0 0 (AA w) := by
  refine m_entry (own := RX0) (f := fV) hx (by decide) rfl (Nat.le_of_ble_eq_true rfl) (fun p e s m args below meth c C => ?_)
  show GO p l e _ s m args below meth c w 2 fV (f_X0_cutOut h o0 x1) 0 [(0, .ref (w.2.1 (o0))), (1, .int x1)] [] h
  unfold f_X0_cutOut
  refine g_iload_n (pc := 0) C 1 rfl dX0_cutOut_0 rfl ?_
  refine g_aload_n (pc := 1) C 0 rfl dX0_cutOut_1 rfl ?_
  refine g_get (pc := 2) C (so_RX0 ho0) 4 fl_RX0_80 (v := .int (h.1 o0 4)) rfl dX0_cutOut_2 ?_
  refine g_callI (pc := 5) (rest := []) (g_runN C mn_RX0_138 (fun x1 hx1 => m_X7_isBelow hx1) (by decide) rfl rfl (Nat.le_of_ble_eq_true rfl) dX0_cutOut_5) (fun r1 => ?_)
  refine g_if_ne (pc := 8) (tgt := 12) C dX0_cutOut_8 (by decide) (fun hc2 => ?_) (fun hc2 => ?_)
  · exact g_vret C dX0_cutOut_11
  · refine g_aload_n (pc := 12) C 0 rfl dX0_cutOut_12 rfl ?_
    refine g_get (pc := 13) C (so_RX0 ho0) 7 fl_RX0_29 (v := .ref (w.2.1 (o0 + 7))) rfl dX0_cutOut_13 ?_
    refine g_iload_n (pc := 16) C 1 rfl dX0_cutOut_16 rfl ?_
    refine g_iconst (pc := 17) (v := 3) C dX0_cutOut_17 kc_3 ?_
    refine g_iast (pc := 18) C (siB7 ho0) dX0_cutOut_18 (fun hb3 => ?_)
    refine g_nm (fun h4 => ?_)
    refine g_aload_n (pc := 19) C 0 rfl dX0_cutOut_19 rfl ?_
    refine g_iload_n (pc := 20) C 1 rfl dX0_cutOut_20 rfl ?_
    refine g_putI (pc := 21) C (so_RX0 ho0) 6 fp_RX0_25 (se_RX0_6 _) rfl rfl (sl_RX0_6) dX0_cutOut_21 ?_
    refine g_nm (fun h5 => ?_)
    refine g_aload_n (pc := 24) C 0 rfl dX0_cutOut_24 rfl ?_
    refine g_get (pc := 25) C (so_RX0 ho0) 10 fl_RX0_39 (v := .ref (w.2.1 (o0 + 10))) rfl dX0_cutOut_25 ?_
    refine g_aload_n (pc := 28) C 0 rfl dX0_cutOut_28 rfl ?_
    refine g_get (pc := 29) C (so_RX0 ho0) 12 fl_RX0_45 (v := .ref (w.2.1 (o0 + 12))) rfl dX0_cutOut_29 ?_
    refine g_iload_n (pc := 32) C 1 rfl dX0_cutOut_32 rfl ?_
    refine g_iald (pc := 33) C (siB12 ho0) dX0_cutOut_33 (fun hb6 => ?_)
    refine g_dup2 (pc := 34) C dX0_cutOut_34 rfl rfl ?_
    refine g_iald (pc := 35) C (siB10 ho0) dX0_cutOut_35 (fun hb7 => ?_)
    refine g_iconst (pc := 36) (v := 1) C dX0_cutOut_36 kc_1 ?_
    refine g_iadd (pc := 37) C dX0_cutOut_37 ?_
    refine g_iast (pc := 38) C (siB10 ho0) dX0_cutOut_38 (fun hb8 => ?_)
    refine g_nm (fun h9 => ?_)
    refine g_aload_n (pc := 39) C 0 rfl dX0_cutOut_39 rfl ?_
    refine g_callV (pc := 40) (rest := []) (g_runV C mv_RX0_135 (fun x1 hx1 => m_X0_settle hx1 ho0) (so_RX0 ho0) rfl (by decide) rfl rfl (Nat.le_of_ble_eq_true rfl) dX0_cutOut_40) (fun h10 => ?_)
    exact g_vret C dX0_cutOut_43
/-- SnowHouse.door(I)I -/
def f_X7_door (h : TT) (x1 : Int32) : Option (Int32 × TT) := (f_X7_isBelow h x1 (12 : Int32)).bind fun r1 => (if r1 = 0 then some ((-1 : Int32), h) else (if (h.1 41 0) = 0 then some ((-4 : Int32), h) else (if (h.1 41 4) < (h.1 (41 + 3) 2) then some ((-4 : Int32), h) else (if (h.1 41 6) < 0 then if inb (0 : Int32) 8 = true then (if x1 < (h.1 (41 + 3 + 2) (0 : Int32).toNatClampNeg) then if inb x1 60 = true then (if (h.1 (41 + 7) x1.toNatClampNeg) = (2 : Int32) then (f_X7_found h (3 : Int32)).bind fun q10 => some (q10.1, q10.2) else (f_X0_cutOut h 41 x1).bind fun h11 => some (h11.1 41 5, h11)) else none else some ((-1 : Int32), h)) else none else some ((-4 : Int32), h)))))
set_option maxRecDepth 20000 in
theorem m_X7_door {l : Launch} {w : WK} {h : TT} {x1 : Int32} {x : (Int32 × TT)} (hx : f_X7_door h x1 = some x)  : Met l yX7_door (Cond.code yX7_door cX7_door 2 (some .int) :: wsG) { frames := 4, cells := 0, slots := 0, locals := 95 } (PG w [.ref (w.2.1 (0)), .int x1] h) (QG w (fIT x)) 0 0 (AA w) := by
  refine m_entry (own := RX7) (f := fIT) hx (by decide) rfl (Nat.le_of_ble_eq_true rfl) (fun p e s m args below meth c C => ?_)
  show GO p l e _ s m args below meth c w 2 fIT (f_X7_door h x1) 0 [(0, .ref (w.2.1 (0))), (1, .int x1)] [] h
  unfold f_X7_door
  refine g_iload_n (pc := 0) C 1 rfl dX7_door_0 rfl ?_
  refine g_bipush (pc := 1) (v := 12) C dX7_door_1 kb_12 ?_
  refine g_callI (pc := 3) (rest := []) (g_runS C ms_RX7_105 (fun x1 hx1 => m_X7_isBelow hx1) (by decide) rfl rfl (Nat.le_of_ble_eq_true rfl) dX7_door_3) (fun r1 => ?_)
  refine g_if_ne (pc := 6) (tgt := 11) C dX7_door_6 (by decide) (fun hc2 => ?_) (fun hc2 => ?_)
  · refine g_iconst (pc := 9) (v := -1) C dX7_door_9 kc_m1 ?_
    exact g_iretT C dX7_door_10
  · refine g_aload_n (pc := 11) C 0 rfl dX7_door_11 rfl ?_
    refine g_get (pc := 12) C so_RX7 6 fl_RX7_49 (v := .ref (w.2.1 (41))) rfl dX7_door_12 ?_
    refine g_get (pc := 15) C (so_RX0 isB41) 0 fl_RX7_189 (v := .int (h.1 41 0)) rfl dX7_door_15 ?_
    refine g_if_eq (pc := 18) (tgt := 51) C dX7_door_18 (by decide) (fun hc3 => ?_) (fun hc3 => ?_)
    · refine g_bipush (pc := 51) (v := -4) C dX7_door_51 kb_m4 ?_
      exact g_iretT C dX7_door_53
    · refine g_aload_n (pc := 21) C 0 rfl dX7_door_21 rfl ?_
      refine g_get (pc := 22) C so_RX7 6 fl_RX7_49 (v := .ref (w.2.1 (41))) rfl dX7_door_22 ?_
      refine g_get (pc := 25) C (so_RX0 isB41) 4 fl_RX7_190 (v := .int (h.1 41 4)) rfl dX7_door_25 ?_
      refine g_aload_n (pc := 28) C 0 rfl dX7_door_28 rfl ?_
      refine g_get (pc := 29) C so_RX7 6 fl_RX7_49 (v := .ref (w.2.1 (41))) rfl dX7_door_29 ?_
      refine g_get (pc := 32) C (so_RX0 isB41) 2 fl_RX7_185 (v := .ref (w.2.1 (41 + 3))) rfl dX7_door_32 ?_
      refine g_get (pc := 35) C (so_RX3 (isP_B isB41)) 2 fl_RX7_154 (v := .int (h.1 (41 + 3) 2)) rfl dX7_door_35 ?_
      refine g_icmp_lt (pc := 38) (tgt := 51) C dX7_door_38 (by decide) (fun hc4 => ?_) (fun hc4 => ?_)
      · refine g_bipush (pc := 51) (v := -4) C dX7_door_51 kb_m4 ?_
        exact g_iretT C dX7_door_53
      · refine g_aload_n (pc := 41) C 0 rfl dX7_door_41 rfl ?_
        refine g_get (pc := 42) C so_RX7 6 fl_RX7_49 (v := .ref (w.2.1 (41))) rfl dX7_door_42 ?_
        refine g_get (pc := 45) C (so_RX0 isB41) 6 fl_RX7_214 (v := .int (h.1 41 6)) rfl dX7_door_45 ?_
        refine g_if_lt (pc := 48) (tgt := 54) C dX7_door_48 (by decide) (fun hc5 => ?_) (fun hc5 => ?_)
        · refine g_iload_n (pc := 54) C 1 rfl dX7_door_54 rfl ?_
          refine g_aload_n (pc := 55) C 0 rfl dX7_door_55 rfl ?_
          refine g_get (pc := 56) C so_RX7 6 fl_RX7_49 (v := .ref (w.2.1 (41))) rfl dX7_door_56 ?_
          refine g_get (pc := 59) C (so_RX0 isB41) 2 fl_RX7_185 (v := .ref (w.2.1 (41 + 3))) rfl dX7_door_59 ?_
          refine g_get (pc := 62) C (so_RX3 (isP_B isB41)) 5 fl_RX7_217 (v := .ref (w.2.1 (41 + 3 + 2))) rfl dX7_door_62 ?_
          refine g_iconst (pc := 65) (v := 0) C dX7_door_65 kc_0 ?_
          refine g_iald (pc := 66) C (siP2 (isP_B isB41)) dX7_door_66 (fun hb6 => ?_)
          refine g_icmp_lt (pc := 67) (tgt := 72) C dX7_door_67 (by decide) (fun hc7 => ?_) (fun hc7 => ?_)
          · refine g_aload_n (pc := 72) C 0 rfl dX7_door_72 rfl ?_
            refine g_get (pc := 73) C so_RX7 6 fl_RX7_49 (v := .ref (w.2.1 (41))) rfl dX7_door_73 ?_
            refine g_get (pc := 76) C (so_RX0 isB41) 7 fl_RX7_220 (v := .ref (w.2.1 (41 + 7))) rfl dX7_door_76 ?_
            refine g_iload_n (pc := 79) C 1 rfl dX7_door_79 rfl ?_
            refine g_iald (pc := 80) C (siB7 isB41) dX7_door_80 (fun hb8 => ?_)
            refine g_iconst (pc := 81) (v := 2) C dX7_door_81 kc_2 ?_
            refine g_icmp_ne (pc := 82) (tgt := 91) C dX7_door_82 (by decide) (fun hc9 => ?_) (fun hc9 => ?_)
            · refine g_aload_n (pc := 85) C 0 rfl dX7_door_85 rfl ?_
              refine g_iconst (pc := 86) (v := 3) C dX7_door_86 kc_3 ?_
              refine g_callIT (pc := 87) (rest := []) (g_runV C mv_RX7_109 (fun x1 hx1 => m_X7_found hx1) so_RX7 rfl (by decide) rfl rfl (Nat.le_of_ble_eq_true rfl) dX7_door_87) (fun q10 => ?_)
              exact g_iretT C dX7_door_90
            · refine g_aload_n (pc := 91) C 0 rfl dX7_door_91 rfl ?_
              refine g_get (pc := 92) C so_RX7 6 fl_RX7_49 (v := .ref (w.2.1 (41))) rfl dX7_door_92 ?_
              refine g_iload_n (pc := 95) C 1 rfl dX7_door_95 rfl ?_
              refine g_callV (pc := 96) (rest := []) (g_runV C mv_RX7_223 (fun x1 hx1 => m_X0_cutOut hx1 isB41) (so_RX0 isB41) rfl (by decide) rfl rfl (Nat.le_of_ble_eq_true rfl) dX7_door_96) (fun h11 => ?_)
              refine g_aload_n (pc := 99) C 0 rfl dX7_door_99 rfl ?_
              refine g_get (pc := 100) C so_RX7 6 fl_RX7_49 (v := .ref (w.2.1 (41))) rfl dX7_door_100 ?_
              refine g_get (pc := 103) C (so_RX0 isB41) 5 fl_RX7_227 (v := .int (h11.1 41 5)) rfl dX7_door_103 ?_
              exact g_iretT C dX7_door_106
          · refine g_iconst (pc := 70) (v := -1) C dX7_door_70 kc_m1 ?_
            exact g_iretT C dX7_door_71
        · refine g_bipush (pc := 51) (v := -4) C dX7_door_51 kb_m4 ?_
          exact g_iretT C dX7_door_53
/-- SnowHouse$Build.takeFrom(LSnowHouse$Build;)V -/
def f_X0_takeFrom (h : TT) (o0 : Nat) (o1 : Nat) : Option TT := if isZ (h.1 o1 0) = true then nm (wr h o0 0 (h.1 o1 0)) fun h2 => (f_X5_takeFrom h2 (o0 + 1) (o1 + 1)).bind fun h3 => (f_X3_takeFrom h3 (o0 + 3) (o1 + 3)).bind fun h4 => nm (wr h4 o0 3 (h4.1 o1 3)) fun h5 => nm (wr h5 o0 4 (h5.1 o1 4)) fun h6 => nm (wr h6 o0 5 (h6.1 o1 5)) fun h7 => nm (wr h7 o0 6 (h7.1 o1 6)) fun h8 => if cpok (0 : Int32) (0 : Int32) (8 : Int32) 8 8 = true then nm (wrow h8 (o0 + 10) (va_cpy (h8.1 (o1 + 10)) (h8.1 (o0 + 10)) (0 : Int32).toNatClampNeg (0 : Int32).toNatClampNeg (8 : Int32).toNatClampNeg)) fun h10 => if cpok (0 : Int32) (0 : Int32) (8 : Int32) 8 8 = true then nm (wrow h10 (o0 + 11) (va_cpy (h10.1 (o1 + 11)) (h10.1 (o0 + 11)) (0 : Int32).toNatClampNeg (0 : Int32).toNatClampNeg (8 : Int32).toNatClampNeg)) fun h12 => if cpok (0 : Int32) (0 : Int32) (60 : Int32) 60 60 = true then nm (wrow h12 (o0 + 7) (va_cpy (h12.1 (o1 + 7)) (h12.1 (o0 + 7)) (0 : Int32).toNatClampNeg (0 : Int32).toNatClampNeg (60 : Int32).toNatClampNeg)) fun h14 => if cpok (0 : Int32) (0 : Int32) (60 : Int32) 60 60 = true then nm (wrow h14 (o0 + 8) (va_cpy (h14.1 (o1 + 8)) (h14.1 (o0 + 8)) (0 : Int32).toNatClampNeg (0 : Int32).toNatClampNeg (60 : Int32).toNatClampNeg)) fun h16 => if cpok (0 : Int32) (0 : Int32) (60 : Int32) 60 60 = true then nm (wrow h16 (o0 + 9) (va_cpy (h16.1 (o1 + 9)) (h16.1 (o0 + 9)) (0 : Int32).toNatClampNeg (0 : Int32).toNatClampNeg (60 : Int32).toNatClampNeg)) fun h18 => if cpok (0 : Int32) (0 : Int32) (60 : Int32) 60 60 = true then nm (wrow h18 (o0 + 12) (va_cpy (h18.1 (o1 + 12)) (h18.1 (o0 + 12)) (0 : Int32).toNatClampNeg (0 : Int32).toNatClampNeg (60 : Int32).toNatClampNeg)) fun h20 => if cpok (0 : Int32) (0 : Int32) (60 : Int32) 60 60 = true then nm (wrow h20 (o0 + 13) (va_cpy (h20.1 (o1 + 13)) (h20.1 (o0 + 13)) (0 : Int32).toNatClampNeg (0 : Int32).toNatClampNeg (60 : Int32).toNatClampNeg)) fun h22 => if cpok (0 : Int32) (0 : Int32) (60 : Int32) 60 60 = true then nm (wrow h22 (o0 + 14) (va_cpy (h22.1 (o1 + 14)) (h22.1 (o0 + 14)) (0 : Int32).toNatClampNeg (0 : Int32).toNatClampNeg (60 : Int32).toNatClampNeg)) fun h24 => if cpok (0 : Int32) (0 : Int32) (60 : Int32) 60 60 = true then nm (wrow h24 (o0 + 15) (va_cpy (h24.1 (o1 + 15)) (h24.1 (o0 + 15)) (0 : Int32).toNatClampNeg (0 : Int32).toNatClampNeg (60 : Int32).toNatClampNeg)) fun h26 => if cpok (0 : Int32) (0 : Int32) (60 : Int32) 60 60 = true then nm (wrow h26 (o0 + 16) (va_cpy (h26.1 (o1 + 16)) (h26.1 (o0 + 16)) (0 : Int32).toNatClampNeg (0 : Int32).toNatClampNeg (60 : Int32).toNatClampNeg)) fun h28 => some h28 else none else none else none else none else none else none else none else none else none else none else none
set_option maxRecDepth 20000 in
theorem m_X0_takeFrom {l : Launch} {w : WK} {h : TT} {o0 : Nat} {o1 : Nat} {x : TT} (hx : f_X0_takeFrom h o0 o1 = some x) (ho0 : IsB o0) (ho1 : IsB o1) : Met l yX0_takeFrom (Cond.code yX0_takeFrom cX0_takeFrom 2 none :: wsG) { frames := 2, cells := 0, slots := 0, locals := 61 } (PG w [.ref (w.2.1 (o0)), .ref (w.2.1 (o1))] h) (QG w (fV x)) 0 0 (AA w) := by
  refine m_entry (own := RX0) (f := fV) hx (by decide) rfl (Nat.le_of_ble_eq_true rfl) (fun p e s m args below meth c C => ?_)
  show GO p l e _ s m args below meth c w 2 fV (f_X0_takeFrom h o0 o1) 0 [(0, .ref (w.2.1 (o0))), (1, .ref (w.2.1 (o1)))] [] h
  unfold f_X0_takeFrom
  refine g_aload_n (pc := 0) C 0 rfl dX0_takeFrom_0 rfl ?_
  refine g_aload_n (pc := 1) C 1 rfl dX0_takeFrom_1 rfl ?_
  refine g_get (pc := 2) C (so_RX0 ho1) 0 fl_RX0_60 (v := .int (h.1 o1 0)) rfl dX0_takeFrom_2 ?_
  refine g_guard (fun hz1 => ?_)
  refine g_putI (pc := 5) C (so_RX0 ho0) 0 fp_RX0_60 (se_RX0_0 _) (isZ_nar hz1) (isZ_fit hz1) (sl_RX0_0) dX0_takeFrom_5 ?_
  refine g_nm (fun h2 => ?_)
  refine g_aload_n (pc := 8) C 0 rfl dX0_takeFrom_8 rfl ?_
  refine g_get (pc := 9) C (so_RX0 ho0) 1 fl_RX0_12 (v := .ref (w.2.1 (o0 + 1))) rfl dX0_takeFrom_9 ?_
  refine g_aload_n (pc := 12) C 1 rfl dX0_takeFrom_12 rfl ?_
  refine g_get (pc := 13) C (so_RX0 ho1) 1 fl_RX0_12 (v := .ref (w.2.1 (o1 + 1))) rfl dX0_takeFrom_13 ?_
  refine g_callV (pc := 16) (rest := []) (g_runV C mv_RX0_64 (fun x1 hx1 => m_X5_takeFrom hx1 (isS_B ho0) (isS_B ho1)) (so_RX5 (isS_B ho0)) rfl (by decide) rfl rfl (Nat.le_of_ble_eq_true rfl) dX0_takeFrom_16) (fun h3 => ?_)
  refine g_aload_n (pc := 19) C 0 rfl dX0_takeFrom_19 rfl ?_
  refine g_get (pc := 20) C (so_RX0 ho0) 2 fl_RX0_21 (v := .ref (w.2.1 (o0 + 3))) rfl dX0_takeFrom_20 ?_
  refine g_aload_n (pc := 23) C 1 rfl dX0_takeFrom_23 rfl ?_
  refine g_get (pc := 24) C (so_RX0 ho1) 2 fl_RX0_21 (v := .ref (w.2.1 (o1 + 3))) rfl dX0_takeFrom_24 ?_
  refine g_callV (pc := 27) (rest := []) (g_runV C mv_RX0_68 (fun x1 hx1 => m_X3_takeFrom hx1 (isP_B ho0) (isP_B ho1)) (so_RX3 (isP_B ho0)) rfl (by decide) rfl rfl (Nat.le_of_ble_eq_true rfl) dX0_takeFrom_27) (fun h4 => ?_)
  refine g_aload_n (pc := 30) C 0 rfl dX0_takeFrom_30 rfl ?_
  refine g_aload_n (pc := 31) C 1 rfl dX0_takeFrom_31 rfl ?_
  refine g_get (pc := 32) C (so_RX0 ho1) 3 fl_RX0_71 (v := .int (h4.1 o1 3)) rfl dX0_takeFrom_32 ?_
  refine g_putI (pc := 35) C (so_RX0 ho0) 3 fp_RX0_71 (se_RX0_3 _) rfl rfl (sl_RX0_3) dX0_takeFrom_35 ?_
  refine g_nm (fun h5 => ?_)
  refine g_aload_n (pc := 38) C 0 rfl dX0_takeFrom_38 rfl ?_
  refine g_aload_n (pc := 39) C 1 rfl dX0_takeFrom_39 rfl ?_
  refine g_get (pc := 40) C (so_RX0 ho1) 4 fl_RX0_80 (v := .int (h5.1 o1 4)) rfl dX0_takeFrom_40 ?_
  refine g_putI (pc := 43) C (so_RX0 ho0) 4 fp_RX0_80 (se_RX0_4 _) rfl rfl (sl_RX0_4) dX0_takeFrom_43 ?_
  refine g_nm (fun h6 => ?_)
  refine g_aload_n (pc := 46) C 0 rfl dX0_takeFrom_46 rfl ?_
  refine g_aload_n (pc := 47) C 1 rfl dX0_takeFrom_47 rfl ?_
  refine g_get (pc := 48) C (so_RX0 ho1) 5 fl_RX0_83 (v := .int (h6.1 o1 5)) rfl dX0_takeFrom_48 ?_
  refine g_putI (pc := 51) C (so_RX0 ho0) 5 fp_RX0_83 (se_RX0_5 _) rfl rfl (sl_RX0_5) dX0_takeFrom_51 ?_
  refine g_nm (fun h7 => ?_)
  refine g_aload_n (pc := 54) C 0 rfl dX0_takeFrom_54 rfl ?_
  refine g_aload_n (pc := 55) C 1 rfl dX0_takeFrom_55 rfl ?_
  refine g_get (pc := 56) C (so_RX0 ho1) 6 fl_RX0_25 (v := .int (h7.1 o1 6)) rfl dX0_takeFrom_56 ?_
  refine g_putI (pc := 59) C (so_RX0 ho0) 6 fp_RX0_25 (se_RX0_6 _) rfl rfl (sl_RX0_6) dX0_takeFrom_59 ?_
  refine g_nm (fun h8 => ?_)
  refine g_aload_n (pc := 62) C 1 rfl dX0_takeFrom_62 rfl ?_
  refine g_get (pc := 63) C (so_RX0 ho1) 10 fl_RX0_39 (v := .ref (w.2.1 (o1 + 10))) rfl dX0_takeFrom_63 ?_
  refine g_iconst (pc := 66) (v := 0) C dX0_takeFrom_66 kc_0 ?_
  refine g_aload_n (pc := 67) C 0 rfl dX0_takeFrom_67 rfl ?_
  refine g_get (pc := 68) C (so_RX0 ho0) 10 fl_RX0_39 (v := .ref (w.2.1 (o0 + 10))) rfl dX0_takeFrom_68 ?_
  refine g_iconst (pc := 71) (v := 0) C dX0_takeFrom_71 kc_0 ?_
  refine g_bipush (pc := 72) (v := 8) C dX0_takeFrom_72 kb_8 ?_
  refine g_copy (pc := 74) C (siB10 ho1) (siB10 ho0) wm_RX0_86 wna_copy wst_copy wini_sys (by decide) (by decide) (Nat.le_of_ble_eq_true rfl) dX0_takeFrom_74 (fun hb9 => ?_)
  refine g_nm (fun h10 => ?_)
  refine g_aload_n (pc := 77) C 1 rfl dX0_takeFrom_77 rfl ?_
  refine g_get (pc := 78) C (so_RX0 ho1) 11 fl_RX0_42 (v := .ref (w.2.1 (o1 + 11))) rfl dX0_takeFrom_78 ?_
  refine g_iconst (pc := 81) (v := 0) C dX0_takeFrom_81 kc_0 ?_
  refine g_aload_n (pc := 82) C 0 rfl dX0_takeFrom_82 rfl ?_
  refine g_get (pc := 83) C (so_RX0 ho0) 11 fl_RX0_42 (v := .ref (w.2.1 (o0 + 11))) rfl dX0_takeFrom_83 ?_
  refine g_iconst (pc := 86) (v := 0) C dX0_takeFrom_86 kc_0 ?_
  refine g_bipush (pc := 87) (v := 8) C dX0_takeFrom_87 kb_8 ?_
  refine g_copy (pc := 89) C (siB11 ho1) (siB11 ho0) wm_RX0_86 wna_copy wst_copy wini_sys (by decide) (by decide) (Nat.le_of_ble_eq_true rfl) dX0_takeFrom_89 (fun hb11 => ?_)
  refine g_nm (fun h12 => ?_)
  refine g_aload_n (pc := 92) C 1 rfl dX0_takeFrom_92 rfl ?_
  refine g_get (pc := 93) C (so_RX0 ho1) 7 fl_RX0_29 (v := .ref (w.2.1 (o1 + 7))) rfl dX0_takeFrom_93 ?_
  refine g_iconst (pc := 96) (v := 0) C dX0_takeFrom_96 kc_0 ?_
  refine g_aload_n (pc := 97) C 0 rfl dX0_takeFrom_97 rfl ?_
  refine g_get (pc := 98) C (so_RX0 ho0) 7 fl_RX0_29 (v := .ref (w.2.1 (o0 + 7))) rfl dX0_takeFrom_98 ?_
  refine g_iconst (pc := 101) (v := 0) C dX0_takeFrom_101 kc_0 ?_
  refine g_bipush (pc := 102) (v := 60) C dX0_takeFrom_102 kb_60 ?_
  refine g_copy (pc := 104) C (siB7 ho1) (siB7 ho0) wm_RX0_86 wna_copy wst_copy wini_sys (by decide) (by decide) (Nat.le_of_ble_eq_true rfl) dX0_takeFrom_104 (fun hb13 => ?_)
  refine g_nm (fun h14 => ?_)
  refine g_aload_n (pc := 107) C 1 rfl dX0_takeFrom_107 rfl ?_
  refine g_get (pc := 108) C (so_RX0 ho1) 8 fl_RX0_33 (v := .ref (w.2.1 (o1 + 8))) rfl dX0_takeFrom_108 ?_
  refine g_iconst (pc := 111) (v := 0) C dX0_takeFrom_111 kc_0 ?_
  refine g_aload_n (pc := 112) C 0 rfl dX0_takeFrom_112 rfl ?_
  refine g_get (pc := 113) C (so_RX0 ho0) 8 fl_RX0_33 (v := .ref (w.2.1 (o0 + 8))) rfl dX0_takeFrom_113 ?_
  refine g_iconst (pc := 116) (v := 0) C dX0_takeFrom_116 kc_0 ?_
  refine g_bipush (pc := 117) (v := 60) C dX0_takeFrom_117 kb_60 ?_
  refine g_copy (pc := 119) C (siB8 ho1) (siB8 ho0) wm_RX0_86 wna_copy wst_copy wini_sys (by decide) (by decide) (Nat.le_of_ble_eq_true rfl) dX0_takeFrom_119 (fun hb15 => ?_)
  refine g_nm (fun h16 => ?_)
  refine g_aload_n (pc := 122) C 1 rfl dX0_takeFrom_122 rfl ?_
  refine g_get (pc := 123) C (so_RX0 ho1) 9 fl_RX0_36 (v := .ref (w.2.1 (o1 + 9))) rfl dX0_takeFrom_123 ?_
  refine g_iconst (pc := 126) (v := 0) C dX0_takeFrom_126 kc_0 ?_
  refine g_aload_n (pc := 127) C 0 rfl dX0_takeFrom_127 rfl ?_
  refine g_get (pc := 128) C (so_RX0 ho0) 9 fl_RX0_36 (v := .ref (w.2.1 (o0 + 9))) rfl dX0_takeFrom_128 ?_
  refine g_iconst (pc := 131) (v := 0) C dX0_takeFrom_131 kc_0 ?_
  refine g_bipush (pc := 132) (v := 60) C dX0_takeFrom_132 kb_60 ?_
  refine g_copy (pc := 134) C (siB9 ho1) (siB9 ho0) wm_RX0_86 wna_copy wst_copy wini_sys (by decide) (by decide) (Nat.le_of_ble_eq_true rfl) dX0_takeFrom_134 (fun hb17 => ?_)
  refine g_nm (fun h18 => ?_)
  refine g_aload_n (pc := 137) C 1 rfl dX0_takeFrom_137 rfl ?_
  refine g_get (pc := 138) C (so_RX0 ho1) 12 fl_RX0_45 (v := .ref (w.2.1 (o1 + 12))) rfl dX0_takeFrom_138 ?_
  refine g_iconst (pc := 141) (v := 0) C dX0_takeFrom_141 kc_0 ?_
  refine g_aload_n (pc := 142) C 0 rfl dX0_takeFrom_142 rfl ?_
  refine g_get (pc := 143) C (so_RX0 ho0) 12 fl_RX0_45 (v := .ref (w.2.1 (o0 + 12))) rfl dX0_takeFrom_143 ?_
  refine g_iconst (pc := 146) (v := 0) C dX0_takeFrom_146 kc_0 ?_
  refine g_bipush (pc := 147) (v := 60) C dX0_takeFrom_147 kb_60 ?_
  refine g_copy (pc := 149) C (siB12 ho1) (siB12 ho0) wm_RX0_86 wna_copy wst_copy wini_sys (by decide) (by decide) (Nat.le_of_ble_eq_true rfl) dX0_takeFrom_149 (fun hb19 => ?_)
  refine g_nm (fun h20 => ?_)
  refine g_aload_n (pc := 152) C 1 rfl dX0_takeFrom_152 rfl ?_
  refine g_get (pc := 153) C (so_RX0 ho1) 13 fl_RX0_48 (v := .ref (w.2.1 (o1 + 13))) rfl dX0_takeFrom_153 ?_
  refine g_iconst (pc := 156) (v := 0) C dX0_takeFrom_156 kc_0 ?_
  refine g_aload_n (pc := 157) C 0 rfl dX0_takeFrom_157 rfl ?_
  refine g_get (pc := 158) C (so_RX0 ho0) 13 fl_RX0_48 (v := .ref (w.2.1 (o0 + 13))) rfl dX0_takeFrom_158 ?_
  refine g_iconst (pc := 161) (v := 0) C dX0_takeFrom_161 kc_0 ?_
  refine g_bipush (pc := 162) (v := 60) C dX0_takeFrom_162 kb_60 ?_
  refine g_copy (pc := 164) C (siB13 ho1) (siB13 ho0) wm_RX0_86 wna_copy wst_copy wini_sys (by decide) (by decide) (Nat.le_of_ble_eq_true rfl) dX0_takeFrom_164 (fun hb21 => ?_)
  refine g_nm (fun h22 => ?_)
  refine g_aload_n (pc := 167) C 1 rfl dX0_takeFrom_167 rfl ?_
  refine g_get (pc := 168) C (so_RX0 ho1) 14 fl_RX0_51 (v := .ref (w.2.1 (o1 + 14))) rfl dX0_takeFrom_168 ?_
  refine g_iconst (pc := 171) (v := 0) C dX0_takeFrom_171 kc_0 ?_
  refine g_aload_n (pc := 172) C 0 rfl dX0_takeFrom_172 rfl ?_
  refine g_get (pc := 173) C (so_RX0 ho0) 14 fl_RX0_51 (v := .ref (w.2.1 (o0 + 14))) rfl dX0_takeFrom_173 ?_
  refine g_iconst (pc := 176) (v := 0) C dX0_takeFrom_176 kc_0 ?_
  refine g_bipush (pc := 177) (v := 60) C dX0_takeFrom_177 kb_60 ?_
  refine g_copy (pc := 179) C (siB14 ho1) (siB14 ho0) wm_RX0_86 wna_copy wst_copy wini_sys (by decide) (by decide) (Nat.le_of_ble_eq_true rfl) dX0_takeFrom_179 (fun hb23 => ?_)
  refine g_nm (fun h24 => ?_)
  refine g_aload_n (pc := 182) C 1 rfl dX0_takeFrom_182 rfl ?_
  refine g_get (pc := 183) C (so_RX0 ho1) 15 fl_RX0_54 (v := .ref (w.2.1 (o1 + 15))) rfl dX0_takeFrom_183 ?_
  refine g_iconst (pc := 186) (v := 0) C dX0_takeFrom_186 kc_0 ?_
  refine g_aload_n (pc := 187) C 0 rfl dX0_takeFrom_187 rfl ?_
  refine g_get (pc := 188) C (so_RX0 ho0) 15 fl_RX0_54 (v := .ref (w.2.1 (o0 + 15))) rfl dX0_takeFrom_188 ?_
  refine g_iconst (pc := 191) (v := 0) C dX0_takeFrom_191 kc_0 ?_
  refine g_bipush (pc := 192) (v := 60) C dX0_takeFrom_192 kb_60 ?_
  refine g_copy (pc := 194) C (siB15 ho1) (siB15 ho0) wm_RX0_86 wna_copy wst_copy wini_sys (by decide) (by decide) (Nat.le_of_ble_eq_true rfl) dX0_takeFrom_194 (fun hb25 => ?_)
  refine g_nm (fun h26 => ?_)
  refine g_aload_n (pc := 197) C 1 rfl dX0_takeFrom_197 rfl ?_
  refine g_get (pc := 198) C (so_RX0 ho1) 16 fl_RX0_57 (v := .ref (w.2.1 (o1 + 16))) rfl dX0_takeFrom_198 ?_
  refine g_iconst (pc := 201) (v := 0) C dX0_takeFrom_201 kc_0 ?_
  refine g_aload_n (pc := 202) C 0 rfl dX0_takeFrom_202 rfl ?_
  refine g_get (pc := 203) C (so_RX0 ho0) 16 fl_RX0_57 (v := .ref (w.2.1 (o0 + 16))) rfl dX0_takeFrom_203 ?_
  refine g_iconst (pc := 206) (v := 0) C dX0_takeFrom_206 kc_0 ?_
  refine g_bipush (pc := 207) (v := 60) C dX0_takeFrom_207 kb_60 ?_
  refine g_copy (pc := 209) C (siB16 ho1) (siB16 ho0) wm_RX0_86 wna_copy wst_copy wini_sys (by decide) (by decide) (Nat.le_of_ble_eq_true rfl) dX0_takeFrom_209 (fun hb27 => ?_)
  refine g_nm (fun h28 => ?_)
  exact g_vret C dX0_takeFrom_212
/-- SnowHouse.keep(I)I -/
def f_X7_keep (h : TT) (x1 : Int32) : Option (Int32 × TT) := (f_X7_isBelow h x1 (3 : Int32)).bind fun r1 => (if r1 = 0 then some ((-1 : Int32), h) else (if (h.1 41 0) = 0 then some ((-4 : Int32), h) else if inb x1 3 = true then (f_X0_takeFrom h (59 + 17 * x1.toNatClampNeg) 41).bind fun h5 => some (h5.1 41 4, h5) else none))
set_option maxRecDepth 20000 in
theorem m_X7_keep {l : Launch} {w : WK} {h : TT} {x1 : Int32} {x : (Int32 × TT)} (hx : f_X7_keep h x1 = some x)  : Met l yX7_keep (Cond.code yX7_keep cX7_keep 2 (some .int) :: wsG) { frames := 3, cells := 0, slots := 0, locals := 82 } (PG w [.ref (w.2.1 (0)), .int x1] h) (QG w (fIT x)) 0 0 (AA w) := by
  refine m_entry (own := RX7) (f := fIT) hx (by decide) rfl (Nat.le_of_ble_eq_true rfl) (fun p e s m args below meth c C => ?_)
  show GO p l e _ s m args below meth c w 2 fIT (f_X7_keep h x1) 0 [(0, .ref (w.2.1 (0))), (1, .int x1)] [] h
  unfold f_X7_keep
  refine g_iload_n (pc := 0) C 1 rfl dX7_keep_0 rfl ?_
  refine g_iconst (pc := 1) (v := 3) C dX7_keep_1 kc_3 ?_
  refine g_callI (pc := 2) (rest := []) (g_runS C ms_RX7_105 (fun x1 hx1 => m_X7_isBelow hx1) (by decide) rfl rfl (Nat.le_of_ble_eq_true rfl) dX7_keep_2) (fun r1 => ?_)
  refine g_if_ne (pc := 5) (tgt := 10) C dX7_keep_5 (by decide) (fun hc2 => ?_) (fun hc2 => ?_)
  · refine g_iconst (pc := 8) (v := -1) C dX7_keep_8 kc_m1 ?_
    exact g_iretT C dX7_keep_9
  · refine g_aload_n (pc := 10) C 0 rfl dX7_keep_10 rfl ?_
    refine g_get (pc := 11) C so_RX7 6 fl_RX7_49 (v := .ref (w.2.1 (41))) rfl dX7_keep_11 ?_
    refine g_get (pc := 14) C (so_RX0 isB41) 0 fl_RX7_189 (v := .int (h.1 41 0)) rfl dX7_keep_14 ?_
    refine g_if_ne (pc := 17) (tgt := 23) C dX7_keep_17 (by decide) (fun hc3 => ?_) (fun hc3 => ?_)
    · refine g_bipush (pc := 20) (v := -4) C dX7_keep_20 kb_m4 ?_
      exact g_iretT C dX7_keep_22
    · refine g_aload_n (pc := 23) C 0 rfl dX7_keep_23 rfl ?_
      refine g_get (pc := 24) C so_RX7 7 fl_RX7_53 (v := .ref (w.2.1 (58))) rfl dX7_keep_24 ?_
      refine g_iload_n (pc := 27) C 1 rfl dX7_keep_27 rfl ?_
      refine g_aald (pc := 28) (cA := 0) C sr_keeps rfl rfl dX7_keep_28 (fun hb4 => ?_)
      refine g_aload_n (pc := 29) C 0 rfl dX7_keep_29 rfl ?_
      refine g_get (pc := 30) C so_RX7 6 fl_RX7_49 (v := .ref (w.2.1 (41))) rfl dX7_keep_30 ?_
      refine g_callV (pc := 33) (rest := []) (g_runV C mv_RX7_230 (fun x1 hx1 => m_X0_takeFrom hx1 (isKe hb4) isB41) (so_RX0 (isKe hb4)) rfl (by decide) rfl rfl (Nat.le_of_ble_eq_true rfl) dX7_keep_33) (fun h5 => ?_)
      refine g_aload_n (pc := 36) C 0 rfl dX7_keep_36 rfl ?_
      refine g_get (pc := 37) C so_RX7 6 fl_RX7_49 (v := .ref (w.2.1 (41))) rfl dX7_keep_37 ?_
      refine g_get (pc := 40) C (so_RX0 isB41) 4 fl_RX7_190 (v := .int (h5.1 41 4)) rfl dX7_keep_40 ?_
      exact g_iretT C dX7_keep_43
/-- SnowHouse.on(I)I -/
def f_X7_on (h : TT) (x1 : Int32) : Option (Int32 × TT) := (f_X7_isBelow h x1 (3 : Int32)).bind fun r1 => (if r1 = 0 then some ((-1 : Int32), h) else if inb x1 3 = true then (if (h.1 (59 + 17 * x1.toNatClampNeg) 0) = 0 then (f_X7_found h (1 : Int32)).bind fun q5 => some (q5.1, q5.2) else if inb x1 3 = true then (f_X0_takeFrom h 41 (59 + 17 * x1.toNatClampNeg)).bind fun h7 => some (h7.1 41 4, h7) else none) else none)
set_option maxRecDepth 20000 in
theorem m_X7_on {l : Launch} {w : WK} {h : TT} {x1 : Int32} {x : (Int32 × TT)} (hx : f_X7_on h x1 = some x)  : Met l yX7_on (Cond.code yX7_on cX7_on 2 (some .int) :: wsG) { frames := 3, cells := 0, slots := 0, locals := 82 } (PG w [.ref (w.2.1 (0)), .int x1] h) (QG w (fIT x)) 0 0 (AA w) := by
  refine m_entry (own := RX7) (f := fIT) hx (by decide) rfl (Nat.le_of_ble_eq_true rfl) (fun p e s m args below meth c C => ?_)
  show GO p l e _ s m args below meth c w 2 fIT (f_X7_on h x1) 0 [(0, .ref (w.2.1 (0))), (1, .int x1)] [] h
  unfold f_X7_on
  refine g_iload_n (pc := 0) C 1 rfl dX7_on_0 rfl ?_
  refine g_iconst (pc := 1) (v := 3) C dX7_on_1 kc_3 ?_
  refine g_callI (pc := 2) (rest := []) (g_runS C ms_RX7_105 (fun x1 hx1 => m_X7_isBelow hx1) (by decide) rfl rfl (Nat.le_of_ble_eq_true rfl) dX7_on_2) (fun r1 => ?_)
  refine g_if_ne (pc := 5) (tgt := 10) C dX7_on_5 (by decide) (fun hc2 => ?_) (fun hc2 => ?_)
  · refine g_iconst (pc := 8) (v := -1) C dX7_on_8 kc_m1 ?_
    exact g_iretT C dX7_on_9
  · refine g_aload_n (pc := 10) C 0 rfl dX7_on_10 rfl ?_
    refine g_get (pc := 11) C so_RX7 7 fl_RX7_53 (v := .ref (w.2.1 (58))) rfl dX7_on_11 ?_
    refine g_iload_n (pc := 14) C 1 rfl dX7_on_14 rfl ?_
    refine g_aald (pc := 15) (cA := 0) C sr_keeps rfl rfl dX7_on_15 (fun hb3 => ?_)
    refine g_get (pc := 16) C (so_RX0 (isKe hb3)) 0 fl_RX7_189 (v := .int (h.1 (59 + 17 * x1.toNatClampNeg) 0)) rfl dX7_on_16 ?_
    refine g_if_ne (pc := 19) (tgt := 28) C dX7_on_19 (by decide) (fun hc4 => ?_) (fun hc4 => ?_)
    · refine g_aload_n (pc := 22) C 0 rfl dX7_on_22 rfl ?_
      refine g_iconst (pc := 23) (v := 1) C dX7_on_23 kc_1 ?_
      refine g_callIT (pc := 24) (rest := []) (g_runV C mv_RX7_109 (fun x1 hx1 => m_X7_found hx1) so_RX7 rfl (by decide) rfl rfl (Nat.le_of_ble_eq_true rfl) dX7_on_24) (fun q5 => ?_)
      exact g_iretT C dX7_on_27
    · refine g_aload_n (pc := 28) C 0 rfl dX7_on_28 rfl ?_
      refine g_get (pc := 29) C so_RX7 6 fl_RX7_49 (v := .ref (w.2.1 (41))) rfl dX7_on_29 ?_
      refine g_aload_n (pc := 32) C 0 rfl dX7_on_32 rfl ?_
      refine g_get (pc := 33) C so_RX7 7 fl_RX7_53 (v := .ref (w.2.1 (58))) rfl dX7_on_33 ?_
      refine g_iload_n (pc := 36) C 1 rfl dX7_on_36 rfl ?_
      refine g_aald (pc := 37) (cA := 0) C sr_keeps rfl rfl dX7_on_37 (fun hb6 => ?_)
      refine g_callV (pc := 38) (rest := []) (g_runV C mv_RX7_230 (fun x1 hx1 => m_X0_takeFrom hx1 isB41 (isKe hb6)) (so_RX0 isB41) rfl (by decide) rfl rfl (Nat.le_of_ble_eq_true rfl) dX7_on_38) (fun h7 => ?_)
      refine g_aload_n (pc := 41) C 0 rfl dX7_on_41 rfl ?_
      refine g_get (pc := 42) C so_RX7 6 fl_RX7_49 (v := .ref (w.2.1 (41))) rfl dX7_on_42 ?_
      refine g_get (pc := 45) C (so_RX0 isB41) 4 fl_RX7_190 (v := .int (h7.1 41 4)) rfl dX7_on_45 ?_
      exact g_iretT C dX7_on_48
/-- SnowHouse$Build.firstFallen()I -/
def f_X0_firstFallen_47 (h : TT) (o0 : Nat) (k5 : Int32 → Int32 → Option Int32) (x1 : Int32) (x2 : Int32) : Option Int32 := k5 x1 (x2 + (1 : Int32))
set_option maxRecDepth 20000 in
theorem j_X0_firstFallen_47 {p : Program} {l : Launch} {e : Env} {R : Room} {s : State} {m : MethodId} {args : Array Value} {below : List Frame} {meth : Method} {c : Code} {w : WK} (C : CX p R s m args meth c w RX0 cX0_firstFallen 3 (some .int) 0 0) (h : TT) {o0 : Nat} (ho0 : IsB o0) {k5 : Int32 → Int32 → Option Int32} (hk5 : ∀ (x1 : Int32) (x2 : Int32) , GO p l e R s m args below meth c w 3 (fI h) (k5 x1 x2) 5 [(0, .ref (w.2.1 (o0))), (1, .int x1), (2, .int x2)] [] h) (x1 : Int32) (x2 : Int32)  : GO p l e R s m args below meth c w 3 (fI h) (f_X0_firstFallen_47 h o0 k5 x1 x2) 47 [(0, .ref (w.2.1 (o0))), (1, .int x1), (2, .int x2)] [] h := by
  unfold f_X0_firstFallen_47
  refine g_iinc (pc := 47) C 2 rfl dX0_firstFallen_47 (ki_1 _) (by decide) (lv' := [(2, .int (x2 + (1 : Int32))), (0, .ref (w.2.1 (o0))), (1, .int x1)]) rfl ?_
  refine g_goto (pc := 50) (tgt := 5) C dX0_firstFallen_50 (by decide) ?_
  refine g_lv (lv' := [(0, .ref (w.2.1 (o0))), (1, .int x1), (2, .int (x2 + (1 : Int32)))]) [1, 2, 0] rfl ?_
  exact hk5 x1 (x2 + (1 : Int32))
def f_X0_firstFallen_45 (h : TT) (o0 : Nat) (k5 : Int32 → Int32 → Option Int32) (x2 : Int32) : Option Int32 := f_X0_firstFallen_47 h o0 k5 x2 x2
set_option maxRecDepth 20000 in
theorem j_X0_firstFallen_45 {p : Program} {l : Launch} {e : Env} {R : Room} {s : State} {m : MethodId} {args : Array Value} {below : List Frame} {meth : Method} {c : Code} {w : WK} (C : CX p R s m args meth c w RX0 cX0_firstFallen 3 (some .int) 0 0) (h : TT) {o0 : Nat} (ho0 : IsB o0) {k5 : Int32 → Int32 → Option Int32} (hk5 : ∀ (x1 : Int32) (x2 : Int32) , GO p l e R s m args below meth c w 3 (fI h) (k5 x1 x2) 5 [(0, .ref (w.2.1 (o0))), (1, .int x1), (2, .int x2)] [] h) (x2 : Int32)  : GO p l e R s m args below meth c w 3 (fI h) (f_X0_firstFallen_45 h o0 k5 x2) 45 [(0, .ref (w.2.1 (o0))), (2, .int x2)] [] h := by
  unfold f_X0_firstFallen_45
  refine g_iload_n (pc := 45) C 1 rfl dX0_firstFallen_45 rfl ?_
  refine g_istore_n (pc := 46) C dX0_firstFallen_46 rfl (by decide) (lv' := [(1, .int x2), (0, .ref (w.2.1 (o0))), (2, .int x2)]) rfl ?_
  refine g_lv (lv' := [(0, .ref (w.2.1 (o0))), (1, .int x2), (2, .int x2)]) [1, 0, 2] rfl ?_
  exact j_X0_firstFallen_47 C h ho0 hk5 x2 x2
def f_X0_firstFallen_5 (h : TT) (o0 : Nat)  : Nat → Int32 → Int32 → Option Int32
  | 0, _, _ => none
  | n + 1, x1, x2 => (if (h.1 o0 4) ≤ x2 then some x1 else if inb x2 60 = true then (if (h.1 (o0 + 7) x2.toNatClampNeg) = (2 : Int32) then (if x1 < 0 then f_X0_firstFallen_45 h o0 (f_X0_firstFallen_5 h o0 n) x2 else if inb x2 60 = true then if inb x1 60 = true then (if (h.1 (o0 + 8) x1.toNatClampNeg) ≤ (h.1 (o0 + 8) x2.toNatClampNeg) then f_X0_firstFallen_47 h o0 (f_X0_firstFallen_5 h o0 n) x1 x2 else f_X0_firstFallen_45 h o0 (f_X0_firstFallen_5 h o0 n) x2) else none else none) else f_X0_firstFallen_47 h o0 (f_X0_firstFallen_5 h o0 n) x1 x2) else none)
set_option maxRecDepth 20000 in
theorem j_X0_firstFallen_5 {p : Program} {l : Launch} {e : Env} {R : Room} {s : State} {m : MethodId} {args : Array Value} {below : List Frame} {meth : Method} {c : Code} {w : WK} (C : CX p R s m args meth c w RX0 cX0_firstFallen 3 (some .int) 0 0) (h : TT) {o0 : Nat} (ho0 : IsB o0)  : ∀ (n : Nat) (x1 : Int32) (x2 : Int32), GO p l e R s m args below meth c w 3 (fI h) (f_X0_firstFallen_5 h o0 n x1 x2) 5 [(0, .ref (w.2.1 (o0))), (1, .int x1), (2, .int x2)] [] h := by
  intro n
  induction n with
  | zero =>
    intro x1 x2
    exact g_none
  | succ n ih =>
    intro x1 x2
    rw [f_X0_firstFallen_5]
    refine g_iload_n (pc := 5) C 2 rfl dX0_firstFallen_5 rfl ?_
    refine g_aload_n (pc := 6) C 0 rfl dX0_firstFallen_6 rfl ?_
    refine g_get (pc := 7) C (so_RX0 ho0) 4 fl_RX0_80 (v := .int (h.1 o0 4)) rfl dX0_firstFallen_7 ?_
    refine g_icmp_ge (pc := 10) (tgt := 53) C dX0_firstFallen_10 (by decide) (fun hc1 => ?_) (fun hc1 => ?_)
    · refine g_iload_n (pc := 53) C 1 rfl dX0_firstFallen_53 rfl ?_
      exact g_iret C dX0_firstFallen_54
    · refine g_aload_n (pc := 13) C 0 rfl dX0_firstFallen_13 rfl ?_
      refine g_get (pc := 14) C (so_RX0 ho0) 7 fl_RX0_29 (v := .ref (w.2.1 (o0 + 7))) rfl dX0_firstFallen_14 ?_
      refine g_iload_n (pc := 17) C 2 rfl dX0_firstFallen_17 rfl ?_
      refine g_iald (pc := 18) C (siB7 ho0) dX0_firstFallen_18 (fun hb2 => ?_)
      refine g_iconst (pc := 19) (v := 2) C dX0_firstFallen_19 kc_2 ?_
      refine g_icmp_eq (pc := 20) (tgt := 26) C dX0_firstFallen_20 (by decide) (fun hc3 => ?_) (fun hc3 => ?_)
      · refine g_iload_n (pc := 26) C 1 rfl dX0_firstFallen_26 rfl ?_
        refine g_if_lt (pc := 27) (tgt := 45) C dX0_firstFallen_27 (by decide) (fun hc4 => ?_) (fun hc4 => ?_)
        · refine g_lv (lv' := [(0, .ref (w.2.1 (o0))), (2, .int x2)]) [0, 2] rfl ?_
          exact j_X0_firstFallen_45 C h ho0 ih x2
        · refine g_aload_n (pc := 30) C 0 rfl dX0_firstFallen_30 rfl ?_
          refine g_get (pc := 31) C (so_RX0 ho0) 8 fl_RX0_33 (v := .ref (w.2.1 (o0 + 8))) rfl dX0_firstFallen_31 ?_
          refine g_iload_n (pc := 34) C 2 rfl dX0_firstFallen_34 rfl ?_
          refine g_iald (pc := 35) C (siB8 ho0) dX0_firstFallen_35 (fun hb5 => ?_)
          refine g_aload_n (pc := 36) C 0 rfl dX0_firstFallen_36 rfl ?_
          refine g_get (pc := 37) C (so_RX0 ho0) 8 fl_RX0_33 (v := .ref (w.2.1 (o0 + 8))) rfl dX0_firstFallen_37 ?_
          refine g_iload_n (pc := 40) C 1 rfl dX0_firstFallen_40 rfl ?_
          refine g_iald (pc := 41) C (siB8 ho0) dX0_firstFallen_41 (fun hb6 => ?_)
          refine g_icmp_ge (pc := 42) (tgt := 47) C dX0_firstFallen_42 (by decide) (fun hc7 => ?_) (fun hc7 => ?_)
          · exact j_X0_firstFallen_47 C h ho0 ih x1 x2
          · refine g_lv (lv' := [(0, .ref (w.2.1 (o0))), (2, .int x2)]) [0, 2] rfl ?_
            exact j_X0_firstFallen_45 C h ho0 ih x2
      · refine g_goto (pc := 23) (tgt := 47) C dX0_firstFallen_23 (by decide) ?_
        exact j_X0_firstFallen_47 C h ho0 ih x1 x2
def f_X0_firstFallen (h : TT) (o0 : Nat) : Option Int32 := f_X0_firstFallen_5 h o0 KF (-9 : Int32) (0 : Int32)
set_option maxRecDepth 20000 in
theorem m_X0_firstFallen {l : Launch} {w : WK} {h : TT} {o0 : Nat} {x : Int32} (hx : f_X0_firstFallen h o0 = some x) (ho0 : IsB o0) : Met l yX0_firstFallen (Cond.code yX0_firstFallen cX0_firstFallen 3 (some .int) :: wsG) { frames := 0, cells := 0, slots := 0, locals := 0 } (PG w [.ref (w.2.1 (o0))] h) (QG w ((fI h) x)) 0 0 (AA w) := by
  refine m_entry (own := RX0) (f := (fI h)) hx (by decide) rfl (Nat.le_of_ble_eq_true rfl) (fun p e s m args below meth c C => ?_)
  show GO p l e _ s m args below meth c w 3 (fI h) (f_X0_firstFallen h o0) 0 [(0, .ref (w.2.1 (o0)))] [] h
  unfold f_X0_firstFallen
  refine g_bipush (pc := 0) (v := -9) C dX0_firstFallen_0 kb_m9 ?_
  refine g_istore_n (pc := 2) C dX0_firstFallen_2 rfl (by decide) (lv' := [(1, .int (-9 : Int32)), (0, .ref (w.2.1 (o0)))]) rfl ?_
  refine g_iconst (pc := 3) (v := 0) C dX0_firstFallen_3 kc_0 ?_
  refine g_istore_n (pc := 4) C dX0_firstFallen_4 rfl (by decide) (lv' := [(2, .int (0 : Int32)), (1, .int (-9 : Int32)), (0, .ref (w.2.1 (o0)))]) rfl ?_
  refine g_lv (lv' := [(0, .ref (w.2.1 (o0))), (1, .int (-9 : Int32)), (2, .int (0 : Int32))]) [2, 1, 0] rfl ?_
  exact j_X0_firstFallen_5 C h ho0 KF (-9 : Int32) (0 : Int32)
/-- SnowHouse.slumped()I -/
def f_X7_slumped (h : TT)  : Option (Int32 × TT) := (if (h.1 41 0) = 0 then some ((-4 : Int32), h) else (f_X0_firstFallen h 41).bind fun r2 => nm (wr h 0 13 r2) fun h3 => some (h3.1 41 5, h3))
set_option maxRecDepth 20000 in
theorem m_X7_slumped {l : Launch} {w : WK} {h : TT}  {x : (Int32 × TT)} (hx : f_X7_slumped h  = some x)  : Met l yX7_slumped (Cond.code yX7_slumped cX7_slumped 1 (some .int) :: wsG) { frames := 1, cells := 0, slots := 0, locals := 22 } (PG w [.ref (w.2.1 (0))] h) (QG w (fIT x)) 0 0 (AA w) := by
  refine m_entry (own := RX7) (f := fIT) hx (by decide) rfl (Nat.le_of_ble_eq_true rfl) (fun p e s m args below meth c C => ?_)
  show GO p l e _ s m args below meth c w 1 fIT (f_X7_slumped h ) 0 [(0, .ref (w.2.1 (0)))] [] h
  unfold f_X7_slumped
  refine g_aload_n (pc := 0) C 0 rfl dX7_slumped_0 rfl ?_
  refine g_get (pc := 1) C so_RX7 6 fl_RX7_49 (v := .ref (w.2.1 (41))) rfl dX7_slumped_1 ?_
  refine g_get (pc := 4) C (so_RX0 isB41) 0 fl_RX7_189 (v := .int (h.1 41 0)) rfl dX7_slumped_4 ?_
  refine g_if_ne (pc := 7) (tgt := 13) C dX7_slumped_7 (by decide) (fun hc1 => ?_) (fun hc1 => ?_)
  · refine g_bipush (pc := 10) (v := -4) C dX7_slumped_10 kb_m4 ?_
    exact g_iretT C dX7_slumped_12
  · refine g_aload_n (pc := 13) C 0 rfl dX7_slumped_13 rfl ?_
    refine g_aload_n (pc := 14) C 0 rfl dX7_slumped_14 rfl ?_
    refine g_get (pc := 15) C so_RX7 6 fl_RX7_49 (v := .ref (w.2.1 (41))) rfl dX7_slumped_15 ?_
    refine g_callI (pc := 18) (rest := [.ref (w.2.1 (0))]) (g_runV C mv_RX7_233 (fun x1 hx1 => m_X0_firstFallen hx1 isB41) (so_RX0 isB41) rfl (by decide) rfl rfl (Nat.le_of_ble_eq_true rfl) dX7_slumped_18) (fun r2 => ?_)
    refine g_putI (pc := 21) C so_RX7 13 fp_RX7_88 (se_RX7_13 _) rfl rfl (sl_RX7_13) dX7_slumped_21 ?_
    refine g_nm (fun h3 => ?_)
    refine g_aload_n (pc := 24) C 0 rfl dX7_slumped_24 rfl ?_
    refine g_get (pc := 25) C so_RX7 6 fl_RX7_49 (v := .ref (w.2.1 (41))) rfl dX7_slumped_25 ?_
    refine g_get (pc := 28) C (so_RX0 isB41) 5 fl_RX7_227 (v := .int (h3.1 41 5)) rfl dX7_slumped_28 ?_
    exact g_iretT C dX7_slumped_31
/-- SnowHouse$Build.raise(I)I -/
def f_X0_raise_35 (o0 : Nat)   (h : TT) : Option (Int32 × TT) := some (h.1 o0 5, h)
set_option maxRecDepth 20000 in
theorem j_X0_raise_35 {p : Program} {l : Launch} {e : Env} {R : Room} {s : State} {m : MethodId} {args : Array Value} {below : List Frame} {meth : Method} {c : Code} {w : WK} (C : CX p R s m args meth c w RX0 cX0_raise 3 (some .int) 4 97)  {o0 : Nat} (ho0 : IsB o0)    (h : TT) : GO p l e R s m args below meth c w 3 fIT (f_X0_raise_35 o0 h) 35 [(0, .ref (w.2.1 (o0)))] [] h := by
  unfold f_X0_raise_35
  refine g_aload_n (pc := 35) C 0 rfl dX0_raise_35 rfl ?_
  refine g_get (pc := 36) C (so_RX0 ho0) 5 fl_RX0_83 (v := .int (h.1 o0 5)) rfl dX0_raise_36 ?_
  exact g_iretT C dX0_raise_39
def f_X0_raise_6 (o0 : Nat)  : Nat → Int32 → Int32 → TT → Option (Int32 × TT)
  | 0, _, _, _ => none
  | n + 1, x1, x2, h => (if (h.1 (o0 + 3) 2) ≤ x2 then f_X0_raise_35 o0 h else (if x1 < (h.1 o0 5) then f_X0_raise_35 o0 h else (f_X0_layNext h o0).bind fun h4 => f_X0_raise_6 o0 n x1 (x2 + (1 : Int32)) h4))
set_option maxRecDepth 20000 in
theorem j_X0_raise_6 {p : Program} {l : Launch} {e : Env} {R : Room} {s : State} {m : MethodId} {args : Array Value} {below : List Frame} {meth : Method} {c : Code} {w : WK} (C : CX p R s m args meth c w RX0 cX0_raise 3 (some .int) 4 97)  {o0 : Nat} (ho0 : IsB o0)  : ∀ (n : Nat) (x1 : Int32) (x2 : Int32) (h : TT), GO p l e R s m args below meth c w 3 fIT (f_X0_raise_6 o0 n x1 x2 h) 6 [(0, .ref (w.2.1 (o0))), (1, .int x1), (2, .int x2)] [] h := by
  intro n
  induction n with
  | zero =>
    intro x1 x2 h
    exact g_none
  | succ n ih =>
    intro x1 x2 h
    rw [f_X0_raise_6]
    refine g_iload_n (pc := 6) C 2 rfl dX0_raise_6 rfl ?_
    refine g_aload_n (pc := 7) C 0 rfl dX0_raise_7 rfl ?_
    refine g_get (pc := 8) C (so_RX0 ho0) 2 fl_RX0_21 (v := .ref (w.2.1 (o0 + 3))) rfl dX0_raise_8 ?_
    refine g_get (pc := 11) C (so_RX3 (isP_B ho0)) 2 fl_RX0_121 (v := .int (h.1 (o0 + 3) 2)) rfl dX0_raise_11 ?_
    refine g_icmp_ge (pc := 14) (tgt := 35) C dX0_raise_14 (by decide) (fun hc2 => ?_) (fun hc2 => ?_)
    · refine g_lv (lv' := [(0, .ref (w.2.1 (o0)))]) [0] rfl ?_
      exact j_X0_raise_35 C ho0 h
    · refine g_aload_n (pc := 17) C 0 rfl dX0_raise_17 rfl ?_
      refine g_get (pc := 18) C (so_RX0 ho0) 5 fl_RX0_83 (v := .int (h.1 o0 5)) rfl dX0_raise_18 ?_
      refine g_iload_n (pc := 21) C 1 rfl dX0_raise_21 rfl ?_
      refine g_icmp_gt (pc := 22) (tgt := 35) C dX0_raise_22 (by decide) (fun hc3 => ?_) (fun hc3 => ?_)
      · refine g_lv (lv' := [(0, .ref (w.2.1 (o0)))]) [0] rfl ?_
        exact j_X0_raise_35 C ho0 h
      · refine g_aload_n (pc := 25) C 0 rfl dX0_raise_25 rfl ?_
        refine g_callV (pc := 26) (rest := []) (g_runV C mv_RX0_124 (fun x1 hx1 => m_X0_layNext hx1 ho0) (so_RX0 ho0) rfl (by decide) rfl rfl (Nat.le_of_ble_eq_true rfl) dX0_raise_26) (fun h4 => ?_)
        refine g_iinc (pc := 29) C 2 rfl dX0_raise_29 (ki_1 _) (by decide) (lv' := [(2, .int (x2 + (1 : Int32))), (0, .ref (w.2.1 (o0))), (1, .int x1)]) rfl ?_
        refine g_goto (pc := 32) (tgt := 6) C dX0_raise_32 (by decide) ?_
        refine g_lv (lv' := [(0, .ref (w.2.1 (o0))), (1, .int x1), (2, .int (x2 + (1 : Int32)))]) [1, 2, 0] rfl ?_
        exact ih x1 (x2 + (1 : Int32)) h4
def f_X0_raise (h : TT) (o0 : Nat) (x1 : Int32) : Option (Int32 × TT) := (f_X0_clear h o0).bind fun h1 => f_X0_raise_6 o0 KF x1 (0 : Int32) h1
set_option maxRecDepth 20000 in
theorem m_X0_raise {l : Launch} {w : WK} {h : TT} {o0 : Nat} {x1 : Int32} {x : (Int32 × TT)} (hx : f_X0_raise h o0 x1 = some x) (ho0 : IsB o0) : Met l yX0_raise (Cond.code yX0_raise cX0_raise 3 (some .int) :: wsG) { frames := 4, cells := 0, slots := 0, locals := 97 } (PG w [.ref (w.2.1 (o0)), .int x1] h) (QG w (fIT x)) 0 0 (AA w) := by
  refine m_entry (own := RX0) (f := fIT) hx (by decide) rfl (Nat.le_of_ble_eq_true rfl) (fun p e s m args below meth c C => ?_)
  show GO p l e _ s m args below meth c w 3 fIT (f_X0_raise h o0 x1) 0 [(0, .ref (w.2.1 (o0))), (1, .int x1)] [] h
  unfold f_X0_raise
  refine g_aload_n (pc := 0) C 0 rfl dX0_raise_0 rfl ?_
  refine g_callV (pc := 1) (rest := []) (g_runV C mv_RX0_77 (fun x1 hx1 => m_X0_clear hx1 ho0) (so_RX0 ho0) rfl (by decide) rfl rfl (Nat.le_of_ble_eq_true rfl) dX0_raise_1) (fun h1 => ?_)
  refine g_iconst (pc := 4) (v := 0) C dX0_raise_4 kc_0 ?_
  refine g_istore_n (pc := 5) C dX0_raise_5 rfl (by decide) (lv' := [(2, .int (0 : Int32)), (0, .ref (w.2.1 (o0))), (1, .int x1)]) rfl ?_
  refine g_lv (lv' := [(0, .ref (w.2.1 (o0))), (1, .int x1), (2, .int (0 : Int32))]) [1, 2, 0] rfl ?_
  exact j_X0_raise_6 C ho0 KF x1 (0 : Int32) h1
/-- SnowHouse.falls()I -/
def f_X7_falls (h : TT)  : Option (Int32 × TT) := (if (h.1 41 0) = 0 then some ((-4 : Int32), h) else (f_X0_takeFrom h 110 41).bind fun h2 => (f_X0_raise h2 110 (0 : Int32)).bind fun q3 => (if q3.1 = 0 then some ((-9 : Int32), q3.2) else (f_X0_firstFallen q3.2 110).bind fun r5 => nm (wr q3.2 0 13 r5) fun h6 => some ((h6.1 110 4) - (1 : Int32), h6)))
set_option maxRecDepth 20000 in
theorem m_X7_falls {l : Launch} {w : WK} {h : TT}  {x : (Int32 × TT)} (hx : f_X7_falls h  = some x)  : Met l yX7_falls (Cond.code yX7_falls cX7_falls 1 (some .int) :: wsG) { frames := 5, cells := 0, slots := 0, locals := 119 } (PG w [.ref (w.2.1 (0))] h) (QG w (fIT x)) 0 0 (AA w) := by
  refine m_entry (own := RX7) (f := fIT) hx (by decide) rfl (Nat.le_of_ble_eq_true rfl) (fun p e s m args below meth c C => ?_)
  show GO p l e _ s m args below meth c w 1 fIT (f_X7_falls h ) 0 [(0, .ref (w.2.1 (0)))] [] h
  unfold f_X7_falls
  refine g_aload_n (pc := 0) C 0 rfl dX7_falls_0 rfl ?_
  refine g_get (pc := 1) C so_RX7 6 fl_RX7_49 (v := .ref (w.2.1 (41))) rfl dX7_falls_1 ?_
  refine g_get (pc := 4) C (so_RX0 isB41) 0 fl_RX7_189 (v := .int (h.1 41 0)) rfl dX7_falls_4 ?_
  refine g_if_ne (pc := 7) (tgt := 13) C dX7_falls_7 (by decide) (fun hc1 => ?_) (fun hc1 => ?_)
  · refine g_bipush (pc := 10) (v := -4) C dX7_falls_10 kb_m4 ?_
    exact g_iretT C dX7_falls_12
  · refine g_aload_n (pc := 13) C 0 rfl dX7_falls_13 rfl ?_
    refine g_get (pc := 14) C so_RX7 8 fl_RX7_57 (v := .ref (w.2.1 (110))) rfl dX7_falls_14 ?_
    refine g_aload_n (pc := 17) C 0 rfl dX7_falls_17 rfl ?_
    refine g_get (pc := 18) C so_RX7 6 fl_RX7_49 (v := .ref (w.2.1 (41))) rfl dX7_falls_18 ?_
    refine g_callV (pc := 21) (rest := []) (g_runV C mv_RX7_230 (fun x1 hx1 => m_X0_takeFrom hx1 isB110 isB41) (so_RX0 isB110) rfl (by decide) rfl rfl (Nat.le_of_ble_eq_true rfl) dX7_falls_21) (fun h2 => ?_)
    refine g_aload_n (pc := 24) C 0 rfl dX7_falls_24 rfl ?_
    refine g_get (pc := 25) C so_RX7 8 fl_RX7_57 (v := .ref (w.2.1 (110))) rfl dX7_falls_25 ?_
    refine g_iconst (pc := 28) (v := 0) C dX7_falls_28 kc_0 ?_
    refine g_callIT (pc := 29) (rest := []) (g_runV C mv_RX7_237 (fun x1 hx1 => m_X0_raise hx1 isB110) (so_RX0 isB110) rfl (by decide) rfl rfl (Nat.le_of_ble_eq_true rfl) dX7_falls_29) (fun q3 => ?_)
    refine g_if_ne (pc := 32) (tgt := 38) C dX7_falls_32 (by decide) (fun hc4 => ?_) (fun hc4 => ?_)
    · refine g_bipush (pc := 35) (v := -9) C dX7_falls_35 kb_m9 ?_
      exact g_iretT C dX7_falls_37
    · refine g_aload_n (pc := 38) C 0 rfl dX7_falls_38 rfl ?_
      refine g_aload_n (pc := 39) C 0 rfl dX7_falls_39 rfl ?_
      refine g_get (pc := 40) C so_RX7 8 fl_RX7_57 (v := .ref (w.2.1 (110))) rfl dX7_falls_40 ?_
      refine g_callI (pc := 43) (rest := [.ref (w.2.1 (0))]) (g_runV C mv_RX7_233 (fun x1 hx1 => m_X0_firstFallen hx1 isB110) (so_RX0 isB110) rfl (by decide) rfl rfl (Nat.le_of_ble_eq_true rfl) dX7_falls_43) (fun r5 => ?_)
      refine g_putI (pc := 46) C so_RX7 13 fp_RX7_88 (se_RX7_13 _) rfl rfl (sl_RX7_13) dX7_falls_46 ?_
      refine g_nm (fun h6 => ?_)
      refine g_aload_n (pc := 49) C 0 rfl dX7_falls_49 rfl ?_
      refine g_get (pc := 50) C so_RX7 8 fl_RX7_57 (v := .ref (w.2.1 (110))) rfl dX7_falls_50 ?_
      refine g_get (pc := 53) C (so_RX0 isB110) 4 fl_RX7_190 (v := .int (h6.1 110 4)) rfl dX7_falls_53 ?_
      refine g_iconst (pc := 56) (v := 1) C dX7_falls_56 kc_1 ?_
      refine g_isub (pc := 57) C dX7_falls_57 ?_
      exact g_iretT C dX7_falls_58
/-- SnowHouse.pace(I)I -/
def f_X7_pace (h : TT) (x1 : Int32) : Option (Int32 × TT) := (if x1 < (1 : Int32) then some ((-1 : Int32), h) else (if x1 ≤ (9 : Int32) then (if (h.1 41 0) = 0 then some ((-4 : Int32), h) else (f_X0_takeFrom h 110 41).bind fun h4 => nm (wr h4 (110 + 3) 3 x1) fun h5 => (f_X0_raise h5 110 (60 : Int32)).bind fun q6 => some (q6.1, q6.2)) else some ((-1 : Int32), h)))
set_option maxRecDepth 20000 in
theorem m_X7_pace {l : Launch} {w : WK} {h : TT} {x1 : Int32} {x : (Int32 × TT)} (hx : f_X7_pace h x1 = some x)  : Met l yX7_pace (Cond.code yX7_pace cX7_pace 2 (some .int) :: wsG) { frames := 5, cells := 0, slots := 0, locals := 119 } (PG w [.ref (w.2.1 (0)), .int x1] h) (QG w (fIT x)) 0 0 (AA w) := by
  refine m_entry (own := RX7) (f := fIT) hx (by decide) rfl (Nat.le_of_ble_eq_true rfl) (fun p e s m args below meth c C => ?_)
  show GO p l e _ s m args below meth c w 2 fIT (f_X7_pace h x1) 0 [(0, .ref (w.2.1 (0))), (1, .int x1)] [] h
  unfold f_X7_pace
  refine g_iload_n (pc := 0) C 1 rfl dX7_pace_0 rfl ?_
  refine g_iconst (pc := 1) (v := 1) C dX7_pace_1 kc_1 ?_
  refine g_icmp_lt (pc := 2) (tgt := 11) C dX7_pace_2 (by decide) (fun hc1 => ?_) (fun hc1 => ?_)
  · refine g_iconst (pc := 11) (v := -1) C dX7_pace_11 kc_m1 ?_
    exact g_iretT C dX7_pace_12
  · refine g_iload_n (pc := 5) C 1 rfl dX7_pace_5 rfl ?_
    refine g_bipush (pc := 6) (v := 9) C dX7_pace_6 kb_9 ?_
    refine g_icmp_le (pc := 8) (tgt := 13) C dX7_pace_8 (by decide) (fun hc2 => ?_) (fun hc2 => ?_)
    · refine g_aload_n (pc := 13) C 0 rfl dX7_pace_13 rfl ?_
      refine g_get (pc := 14) C so_RX7 6 fl_RX7_49 (v := .ref (w.2.1 (41))) rfl dX7_pace_14 ?_
      refine g_get (pc := 17) C (so_RX0 isB41) 0 fl_RX7_189 (v := .int (h.1 41 0)) rfl dX7_pace_17 ?_
      refine g_if_ne (pc := 20) (tgt := 26) C dX7_pace_20 (by decide) (fun hc3 => ?_) (fun hc3 => ?_)
      · refine g_bipush (pc := 23) (v := -4) C dX7_pace_23 kb_m4 ?_
        exact g_iretT C dX7_pace_25
      · refine g_aload_n (pc := 26) C 0 rfl dX7_pace_26 rfl ?_
        refine g_get (pc := 27) C so_RX7 8 fl_RX7_57 (v := .ref (w.2.1 (110))) rfl dX7_pace_27 ?_
        refine g_aload_n (pc := 30) C 0 rfl dX7_pace_30 rfl ?_
        refine g_get (pc := 31) C so_RX7 6 fl_RX7_49 (v := .ref (w.2.1 (41))) rfl dX7_pace_31 ?_
        refine g_callV (pc := 34) (rest := []) (g_runV C mv_RX7_230 (fun x1 hx1 => m_X0_takeFrom hx1 isB110 isB41) (so_RX0 isB110) rfl (by decide) rfl rfl (Nat.le_of_ble_eq_true rfl) dX7_pace_34) (fun h4 => ?_)
        refine g_aload_n (pc := 37) C 0 rfl dX7_pace_37 rfl ?_
        refine g_get (pc := 38) C so_RX7 8 fl_RX7_57 (v := .ref (w.2.1 (110))) rfl dX7_pace_38 ?_
        refine g_get (pc := 41) C (so_RX0 isB110) 2 fl_RX7_185 (v := .ref (w.2.1 (110 + 3))) rfl dX7_pace_41 ?_
        refine g_iload_n (pc := 44) C 1 rfl dX7_pace_44 rfl ?_
        refine g_putI (pc := 45) C (so_RX3 (isP_B isB110)) 3 fp_RX7_240 (se_RX3_3 _) rfl rfl (sl_RX3_3) dX7_pace_45 ?_
        refine g_nm (fun h5 => ?_)
        refine g_aload_n (pc := 48) C 0 rfl dX7_pace_48 rfl ?_
        refine g_get (pc := 49) C so_RX7 8 fl_RX7_57 (v := .ref (w.2.1 (110))) rfl dX7_pace_49 ?_
        refine g_bipush (pc := 52) (v := 60) C dX7_pace_52 kb_60 ?_
        refine g_callIT (pc := 54) (rest := []) (g_runV C mv_RX7_237 (fun x1 hx1 => m_X0_raise hx1 isB110) (so_RX0 isB110) rfl (by decide) rfl rfl (Nat.le_of_ble_eq_true rfl) dX7_pace_54) (fun q6 => ?_)
        exact g_iretT C dX7_pace_57
    · refine g_iconst (pc := 11) (v := -1) C dX7_pace_11 kc_m1 ?_
      exact g_iretT C dX7_pace_12
/-- SnowHouse.lean(I)I -/
def f_X7_lean_58   : Nat → Int32 → Int32 → TT → Option (Int32 × TT)
  | 0, _, _, _ => none
  | n + 1, x1, x2, h => (if x2 < 0 then some ((-9 : Int32), h) else if inb x1 8 = true then nm (wr h (110 + 3 + 3) x1.toNatClampNeg x2) fun h8 => (f_X0_raise h8 110 (0 : Int32)).bind fun q9 => (if q9.1 = 0 then some (x2, q9.2) else f_X7_lean_58 n x1 (x2 + (-1 : Int32)) q9.2) else none)
set_option maxRecDepth 20000 in
theorem j_X7_lean_58 {p : Program} {l : Launch} {e : Env} {R : Room} {s : State} {m : MethodId} {args : Array Value} {below : List Frame} {meth : Method} {c : Code} {w : WK} (C : CX p R s m args meth c w RX7 cX7_lean 3 (some .int) 5 119)     : ∀ (n : Nat) (x1 : Int32) (x2 : Int32) (h : TT), GO p l e R s m args below meth c w 3 fIT (f_X7_lean_58 n x1 x2 h) 58 [(0, .ref (w.2.1 (0))), (1, .int x1), (2, .int x2)] [] h := by
  intro n
  induction n with
  | zero =>
    intro x1 x2 h
    exact g_none
  | succ n ih =>
    intro x1 x2 h
    rw [f_X7_lean_58]
    refine g_iload_n (pc := 58) C 2 rfl dX7_lean_58 rfl ?_
    refine g_if_lt (pc := 59) (tgt := 94) C dX7_lean_59 (by decide) (fun hc6 => ?_) (fun hc6 => ?_)
    · refine g_bipush (pc := 94) (v := -9) C dX7_lean_94 kb_m9 ?_
      exact g_iretT C dX7_lean_96
    · refine g_aload_n (pc := 62) C 0 rfl dX7_lean_62 rfl ?_
      refine g_get (pc := 63) C so_RX7 8 fl_RX7_57 (v := .ref (w.2.1 (110))) rfl dX7_lean_63 ?_
      refine g_get (pc := 66) C (so_RX0 isB110) 2 fl_RX7_185 (v := .ref (w.2.1 (110 + 3))) rfl dX7_lean_66 ?_
      refine g_get (pc := 69) C (so_RX3 (isP_B isB110)) 6 fl_RX7_243 (v := .ref (w.2.1 (110 + 3 + 3))) rfl dX7_lean_69 ?_
      refine g_iload_n (pc := 72) C 1 rfl dX7_lean_72 rfl ?_
      refine g_iload_n (pc := 73) C 2 rfl dX7_lean_73 rfl ?_
      refine g_iast (pc := 74) C (siP3 (isP_B isB110)) dX7_lean_74 (fun hb7 => ?_)
      refine g_nm (fun h8 => ?_)
      refine g_aload_n (pc := 75) C 0 rfl dX7_lean_75 rfl ?_
      refine g_get (pc := 76) C so_RX7 8 fl_RX7_57 (v := .ref (w.2.1 (110))) rfl dX7_lean_76 ?_
      refine g_iconst (pc := 79) (v := 0) C dX7_lean_79 kc_0 ?_
      refine g_callIT (pc := 80) (rest := []) (g_runV C mv_RX7_237 (fun x1 hx1 => m_X0_raise hx1 isB110) (so_RX0 isB110) rfl (by decide) rfl rfl (Nat.le_of_ble_eq_true rfl) dX7_lean_80) (fun q9 => ?_)
      refine g_if_ne (pc := 83) (tgt := 88) C dX7_lean_83 (by decide) (fun hc10 => ?_) (fun hc10 => ?_)
      · refine g_iload_n (pc := 86) C 2 rfl dX7_lean_86 rfl ?_
        exact g_iretT C dX7_lean_87
      · refine g_iinc (pc := 88) C 2 rfl dX7_lean_88 (ki_m1 _) (by decide) (lv' := [(2, .int (x2 + (-1 : Int32))), (0, .ref (w.2.1 (0))), (1, .int x1)]) rfl ?_
        refine g_goto (pc := 91) (tgt := 58) C dX7_lean_91 (by decide) ?_
        refine g_lv (lv' := [(0, .ref (w.2.1 (0))), (1, .int x1), (2, .int (x2 + (-1 : Int32)))]) [1, 2, 0] rfl ?_
        exact ih x1 (x2 + (-1 : Int32)) q9.2
def f_X7_lean (h : TT) (x1 : Int32) : Option (Int32 × TT) := (f_X7_isBelow h x1 (8 : Int32)).bind fun r1 => (if r1 = 0 then some ((-1 : Int32), h) else (if (h.1 41 0) = 0 then some ((-4 : Int32), h) else (if x1 < (h.1 (41 + 3) 1) then (f_X0_takeFrom h 110 41).bind fun h5 => f_X7_lean_58 KF x1 (9 : Int32) h5 else (f_X7_found h (2 : Int32)).bind fun q11 => some (q11.1, q11.2))))
set_option maxRecDepth 20000 in
theorem m_X7_lean {l : Launch} {w : WK} {h : TT} {x1 : Int32} {x : (Int32 × TT)} (hx : f_X7_lean h x1 = some x)  : Met l yX7_lean (Cond.code yX7_lean cX7_lean 3 (some .int) :: wsG) { frames := 5, cells := 0, slots := 0, locals := 119 } (PG w [.ref (w.2.1 (0)), .int x1] h) (QG w (fIT x)) 0 0 (AA w) := by
  refine m_entry (own := RX7) (f := fIT) hx (by decide) rfl (Nat.le_of_ble_eq_true rfl) (fun p e s m args below meth c C => ?_)
  show GO p l e _ s m args below meth c w 3 fIT (f_X7_lean h x1) 0 [(0, .ref (w.2.1 (0))), (1, .int x1)] [] h
  unfold f_X7_lean
  refine g_iload_n (pc := 0) C 1 rfl dX7_lean_0 rfl ?_
  refine g_bipush (pc := 1) (v := 8) C dX7_lean_1 kb_8 ?_
  refine g_callI (pc := 3) (rest := []) (g_runS C ms_RX7_105 (fun x1 hx1 => m_X7_isBelow hx1) (by decide) rfl rfl (Nat.le_of_ble_eq_true rfl) dX7_lean_3) (fun r1 => ?_)
  refine g_if_ne (pc := 6) (tgt := 11) C dX7_lean_6 (by decide) (fun hc2 => ?_) (fun hc2 => ?_)
  · refine g_iconst (pc := 9) (v := -1) C dX7_lean_9 kc_m1 ?_
    exact g_iretT C dX7_lean_10
  · refine g_aload_n (pc := 11) C 0 rfl dX7_lean_11 rfl ?_
    refine g_get (pc := 12) C so_RX7 6 fl_RX7_49 (v := .ref (w.2.1 (41))) rfl dX7_lean_12 ?_
    refine g_get (pc := 15) C (so_RX0 isB41) 0 fl_RX7_189 (v := .int (h.1 41 0)) rfl dX7_lean_15 ?_
    refine g_if_ne (pc := 18) (tgt := 24) C dX7_lean_18 (by decide) (fun hc3 => ?_) (fun hc3 => ?_)
    · refine g_bipush (pc := 21) (v := -4) C dX7_lean_21 kb_m4 ?_
      exact g_iretT C dX7_lean_23
    · refine g_iload_n (pc := 24) C 1 rfl dX7_lean_24 rfl ?_
      refine g_aload_n (pc := 25) C 0 rfl dX7_lean_25 rfl ?_
      refine g_get (pc := 26) C so_RX7 6 fl_RX7_49 (v := .ref (w.2.1 (41))) rfl dX7_lean_26 ?_
      refine g_get (pc := 29) C (so_RX0 isB41) 2 fl_RX7_185 (v := .ref (w.2.1 (41 + 3))) rfl dX7_lean_29 ?_
      refine g_get (pc := 32) C (so_RX3 (isP_B isB41)) 1 fl_RX7_168 (v := .int (h.1 (41 + 3) 1)) rfl dX7_lean_32 ?_
      refine g_icmp_lt (pc := 35) (tgt := 44) C dX7_lean_35 (by decide) (fun hc4 => ?_) (fun hc4 => ?_)
      · refine g_aload_n (pc := 44) C 0 rfl dX7_lean_44 rfl ?_
        refine g_get (pc := 45) C so_RX7 8 fl_RX7_57 (v := .ref (w.2.1 (110))) rfl dX7_lean_45 ?_
        refine g_aload_n (pc := 48) C 0 rfl dX7_lean_48 rfl ?_
        refine g_get (pc := 49) C so_RX7 6 fl_RX7_49 (v := .ref (w.2.1 (41))) rfl dX7_lean_49 ?_
        refine g_callV (pc := 52) (rest := []) (g_runV C mv_RX7_230 (fun x1 hx1 => m_X0_takeFrom hx1 isB110 isB41) (so_RX0 isB110) rfl (by decide) rfl rfl (Nat.le_of_ble_eq_true rfl) dX7_lean_52) (fun h5 => ?_)
        refine g_bipush (pc := 55) (v := 9) C dX7_lean_55 kb_9 ?_
        refine g_istore_n (pc := 57) C dX7_lean_57 rfl (by decide) (lv' := [(2, .int (9 : Int32)), (0, .ref (w.2.1 (0))), (1, .int x1)]) rfl ?_
        refine g_lv (lv' := [(0, .ref (w.2.1 (0))), (1, .int x1), (2, .int (9 : Int32))]) [1, 2, 0] rfl ?_
        exact j_X7_lean_58 C KF x1 (9 : Int32) h5
      · refine g_aload_n (pc := 38) C 0 rfl dX7_lean_38 rfl ?_
        refine g_iconst (pc := 39) (v := 2) C dX7_lean_39 kc_2 ?_
        refine g_callIT (pc := 40) (rest := []) (g_runV C mv_RX7_109 (fun x1 hx1 => m_X7_found hx1) so_RX7 rfl (by decide) rfl rfl (Nat.le_of_ble_eq_true rfl) dX7_lean_40) (fun q11 => ?_)
        exact g_iretT C dX7_lean_43
/-- SnowHouse.leastMinutes()I -/
def f_X7_leastMinutes_13   : Nat → Int32 → TT → Option (Int32 × TT)
  | 0, _, _ => none
  | n + 1, x1, h => (if (9 : Int32) < x1 then some ((-9 : Int32), h) else nm (wr h (110 + 3) 3 x1) fun h3 => (f_X0_raise h3 110 (0 : Int32)).bind fun q4 => (if q4.1 = 0 then some (x1, q4.2) else f_X7_leastMinutes_13 n (x1 + (1 : Int32)) q4.2))
set_option maxRecDepth 20000 in
theorem j_X7_leastMinutes_13 {p : Program} {l : Launch} {e : Env} {R : Room} {s : State} {m : MethodId} {args : Array Value} {below : List Frame} {meth : Method} {c : Code} {w : WK} (C : CX p R s m args meth c w RX7 cX7_leastMinutes 2 (some .int) 5 119)     : ∀ (n : Nat) (x1 : Int32) (h : TT), GO p l e R s m args below meth c w 2 fIT (f_X7_leastMinutes_13 n x1 h) 13 [(0, .ref (w.2.1 (0))), (1, .int x1)] [] h := by
  intro n
  induction n with
  | zero =>
    intro x1 h
    exact g_none
  | succ n ih =>
    intro x1 h
    rw [f_X7_leastMinutes_13]
    refine g_iload_n (pc := 13) C 1 rfl dX7_leastMinutes_13 rfl ?_
    refine g_bipush (pc := 14) (v := 9) C dX7_leastMinutes_14 kb_9 ?_
    refine g_icmp_gt (pc := 16) (tgt := 49) C dX7_leastMinutes_16 (by decide) (fun hc2 => ?_) (fun hc2 => ?_)
    · refine g_bipush (pc := 49) (v := -9) C dX7_leastMinutes_49 kb_m9 ?_
      exact g_iretT C dX7_leastMinutes_51
    · refine g_aload_n (pc := 19) C 0 rfl dX7_leastMinutes_19 rfl ?_
      refine g_get (pc := 20) C so_RX7 8 fl_RX7_57 (v := .ref (w.2.1 (110))) rfl dX7_leastMinutes_20 ?_
      refine g_get (pc := 23) C (so_RX0 isB110) 2 fl_RX7_185 (v := .ref (w.2.1 (110 + 3))) rfl dX7_leastMinutes_23 ?_
      refine g_iload_n (pc := 26) C 1 rfl dX7_leastMinutes_26 rfl ?_
      refine g_putI (pc := 27) C (so_RX3 (isP_B isB110)) 3 fp_RX7_240 (se_RX3_3 _) rfl rfl (sl_RX3_3) dX7_leastMinutes_27 ?_
      refine g_nm (fun h3 => ?_)
      refine g_aload_n (pc := 30) C 0 rfl dX7_leastMinutes_30 rfl ?_
      refine g_get (pc := 31) C so_RX7 8 fl_RX7_57 (v := .ref (w.2.1 (110))) rfl dX7_leastMinutes_31 ?_
      refine g_iconst (pc := 34) (v := 0) C dX7_leastMinutes_34 kc_0 ?_
      refine g_callIT (pc := 35) (rest := []) (g_runV C mv_RX7_237 (fun x1 hx1 => m_X0_raise hx1 isB110) (so_RX0 isB110) rfl (by decide) rfl rfl (Nat.le_of_ble_eq_true rfl) dX7_leastMinutes_35) (fun q4 => ?_)
      refine g_if_ne (pc := 38) (tgt := 43) C dX7_leastMinutes_38 (by decide) (fun hc5 => ?_) (fun hc5 => ?_)
      · refine g_iload_n (pc := 41) C 1 rfl dX7_leastMinutes_41 rfl ?_
        exact g_iretT C dX7_leastMinutes_42
      · refine g_iinc (pc := 43) C 1 rfl dX7_leastMinutes_43 (ki_1 _) (by decide) (lv' := [(1, .int (x1 + (1 : Int32))), (0, .ref (w.2.1 (0)))]) rfl ?_
        refine g_goto (pc := 46) (tgt := 13) C dX7_leastMinutes_46 (by decide) ?_
        refine g_lv (lv' := [(0, .ref (w.2.1 (0))), (1, .int (x1 + (1 : Int32)))]) [1, 0] rfl ?_
        exact ih (x1 + (1 : Int32)) q4.2
def f_X7_leastMinutes (h : TT)  : Option (Int32 × TT) := (f_X0_takeFrom h 110 41).bind fun h1 => f_X7_leastMinutes_13 KF (1 : Int32) h1
set_option maxRecDepth 20000 in
theorem m_X7_leastMinutes {l : Launch} {w : WK} {h : TT}  {x : (Int32 × TT)} (hx : f_X7_leastMinutes h  = some x)  : Met l yX7_leastMinutes (Cond.code yX7_leastMinutes cX7_leastMinutes 2 (some .int) :: wsG) { frames := 5, cells := 0, slots := 0, locals := 119 } (PG w [.ref (w.2.1 (0))] h) (QG w (fIT x)) 0 0 (AA w) := by
  refine m_entry (own := RX7) (f := fIT) hx (by decide) rfl (Nat.le_of_ble_eq_true rfl) (fun p e s m args below meth c C => ?_)
  show GO p l e _ s m args below meth c w 2 fIT (f_X7_leastMinutes h ) 0 [(0, .ref (w.2.1 (0)))] [] h
  unfold f_X7_leastMinutes
  refine g_aload_n (pc := 0) C 0 rfl dX7_leastMinutes_0 rfl ?_
  refine g_get (pc := 1) C so_RX7 8 fl_RX7_57 (v := .ref (w.2.1 (110))) rfl dX7_leastMinutes_1 ?_
  refine g_aload_n (pc := 4) C 0 rfl dX7_leastMinutes_4 rfl ?_
  refine g_get (pc := 5) C so_RX7 6 fl_RX7_49 (v := .ref (w.2.1 (41))) rfl dX7_leastMinutes_5 ?_
  refine g_callV (pc := 8) (rest := []) (g_runV C mv_RX7_230 (fun x1 hx1 => m_X0_takeFrom hx1 isB110 isB41) (so_RX0 isB110) rfl (by decide) rfl rfl (Nat.le_of_ble_eq_true rfl) dX7_leastMinutes_8) (fun h1 => ?_)
  refine g_iconst (pc := 11) (v := 1) C dX7_leastMinutes_11 kc_1 ?_
  refine g_istore_n (pc := 12) C dX7_leastMinutes_12 rfl (by decide) (lv' := [(1, .int (1 : Int32)), (0, .ref (w.2.1 (0)))]) rfl ?_
  refine g_lv (lv' := [(0, .ref (w.2.1 (0))), (1, .int (1 : Int32))]) [1, 0] rfl ?_
  exact j_X7_leastMinutes_13 C KF (1 : Int32) h1
/-- SnowHouse.leastCold()I -/
def f_X7_leastCold_13   : Nat → Int32 → TT → Option (Int32 × TT)
  | 0, _, _ => none
  | n + 1, x1, h => (if (40 : Int32) < x1 then some ((-9 : Int32), h) else if inb (2 : Int32) 4 = true then nm (wr h (110 + 1 + 1) (2 : Int32).toNatClampNeg x1) fun h4 => (f_X0_raise h4 110 (0 : Int32)).bind fun q5 => (if q5.1 = 0 then some (x1, q5.2) else f_X7_leastCold_13 n (x1 + (1 : Int32)) q5.2) else none)
set_option maxRecDepth 20000 in
theorem j_X7_leastCold_13 {p : Program} {l : Launch} {e : Env} {R : Room} {s : State} {m : MethodId} {args : Array Value} {below : List Frame} {meth : Method} {c : Code} {w : WK} (C : CX p R s m args meth c w RX7 cX7_leastCold 2 (some .int) 5 119)     : ∀ (n : Nat) (x1 : Int32) (h : TT), GO p l e R s m args below meth c w 2 fIT (f_X7_leastCold_13 n x1 h) 13 [(0, .ref (w.2.1 (0))), (1, .int x1)] [] h := by
  intro n
  induction n with
  | zero =>
    intro x1 h
    exact g_none
  | succ n ih =>
    intro x1 h
    rw [f_X7_leastCold_13]
    refine g_iload_n (pc := 13) C 1 rfl dX7_leastCold_13 rfl ?_
    refine g_bipush (pc := 14) (v := 40) C dX7_leastCold_14 kb_40 ?_
    refine g_icmp_gt (pc := 16) (tgt := 51) C dX7_leastCold_16 (by decide) (fun hc2 => ?_) (fun hc2 => ?_)
    · refine g_bipush (pc := 51) (v := -9) C dX7_leastCold_51 kb_m9 ?_
      exact g_iretT C dX7_leastCold_53
    · refine g_aload_n (pc := 19) C 0 rfl dX7_leastCold_19 rfl ?_
      refine g_get (pc := 20) C so_RX7 8 fl_RX7_57 (v := .ref (w.2.1 (110))) rfl dX7_leastCold_20 ?_
      refine g_get (pc := 23) C (so_RX0 isB110) 1 fl_RX7_338 (v := .ref (w.2.1 (110 + 1))) rfl dX7_leastCold_23 ?_
      refine g_get (pc := 26) C (so_RX5 (isS_B isB110)) 1 fl_RX7_161 (v := .ref (w.2.1 (110 + 1 + 1))) rfl dX7_leastCold_26 ?_
      refine g_iconst (pc := 29) (v := 2) C dX7_leastCold_29 kc_2 ?_
      refine g_iload_n (pc := 30) C 1 rfl dX7_leastCold_30 rfl ?_
      refine g_iast (pc := 31) C (siS (isS_B isB110)) dX7_leastCold_31 (fun hb3 => ?_)
      refine g_nm (fun h4 => ?_)
      refine g_aload_n (pc := 32) C 0 rfl dX7_leastCold_32 rfl ?_
      refine g_get (pc := 33) C so_RX7 8 fl_RX7_57 (v := .ref (w.2.1 (110))) rfl dX7_leastCold_33 ?_
      refine g_iconst (pc := 36) (v := 0) C dX7_leastCold_36 kc_0 ?_
      refine g_callIT (pc := 37) (rest := []) (g_runV C mv_RX7_237 (fun x1 hx1 => m_X0_raise hx1 isB110) (so_RX0 isB110) rfl (by decide) rfl rfl (Nat.le_of_ble_eq_true rfl) dX7_leastCold_37) (fun q5 => ?_)
      refine g_if_ne (pc := 40) (tgt := 45) C dX7_leastCold_40 (by decide) (fun hc6 => ?_) (fun hc6 => ?_)
      · refine g_iload_n (pc := 43) C 1 rfl dX7_leastCold_43 rfl ?_
        exact g_iretT C dX7_leastCold_44
      · refine g_iinc (pc := 45) C 1 rfl dX7_leastCold_45 (ki_1 _) (by decide) (lv' := [(1, .int (x1 + (1 : Int32))), (0, .ref (w.2.1 (0)))]) rfl ?_
        refine g_goto (pc := 48) (tgt := 13) C dX7_leastCold_48 (by decide) ?_
        refine g_lv (lv' := [(0, .ref (w.2.1 (0))), (1, .int (x1 + (1 : Int32)))]) [1, 0] rfl ?_
        exact ih (x1 + (1 : Int32)) q5.2
def f_X7_leastCold (h : TT)  : Option (Int32 × TT) := (f_X0_takeFrom h 110 41).bind fun h1 => f_X7_leastCold_13 KF (0 : Int32) h1
set_option maxRecDepth 20000 in
theorem m_X7_leastCold {l : Launch} {w : WK} {h : TT}  {x : (Int32 × TT)} (hx : f_X7_leastCold h  = some x)  : Met l yX7_leastCold (Cond.code yX7_leastCold cX7_leastCold 2 (some .int) :: wsG) { frames := 5, cells := 0, slots := 0, locals := 119 } (PG w [.ref (w.2.1 (0))] h) (QG w (fIT x)) 0 0 (AA w) := by
  refine m_entry (own := RX7) (f := fIT) hx (by decide) rfl (Nat.le_of_ble_eq_true rfl) (fun p e s m args below meth c C => ?_)
  show GO p l e _ s m args below meth c w 2 fIT (f_X7_leastCold h ) 0 [(0, .ref (w.2.1 (0)))] [] h
  unfold f_X7_leastCold
  refine g_aload_n (pc := 0) C 0 rfl dX7_leastCold_0 rfl ?_
  refine g_get (pc := 1) C so_RX7 8 fl_RX7_57 (v := .ref (w.2.1 (110))) rfl dX7_leastCold_1 ?_
  refine g_aload_n (pc := 4) C 0 rfl dX7_leastCold_4 rfl ?_
  refine g_get (pc := 5) C so_RX7 6 fl_RX7_49 (v := .ref (w.2.1 (41))) rfl dX7_leastCold_5 ?_
  refine g_callV (pc := 8) (rest := []) (g_runV C mv_RX7_230 (fun x1 hx1 => m_X0_takeFrom hx1 isB110 isB41) (so_RX0 isB110) rfl (by decide) rfl rfl (Nat.le_of_ble_eq_true rfl) dX7_leastCold_8) (fun h1 => ?_)
  refine g_iconst (pc := 11) (v := 0) C dX7_leastCold_11 kc_0 ?_
  refine g_istore_n (pc := 12) C dX7_leastCold_12 rfl (by decide) (lv' := [(1, .int (0 : Int32)), (0, .ref (w.2.1 (0)))]) rfl ?_
  refine g_lv (lv' := [(0, .ref (w.2.1 (0))), (1, .int (0 : Int32))]) [1, 0] rfl ?_
  exact j_X7_leastCold_13 C KF (0 : Int32) h1
/-- SnowHouse.slow()I -/
def f_X7_slow_32   (x1 : Int32) (h : TT) : Option (Int32 × TT) := some (x1, h)
set_option maxRecDepth 20000 in
theorem j_X7_slow_32 {p : Program} {l : Launch} {e : Env} {R : Room} {s : State} {m : MethodId} {args : Array Value} {below : List Frame} {meth : Method} {c : Code} {w : WK} (C : CX p R s m args meth c w RX7 cX7_slow 2 (some .int) 6 140)     (x1 : Int32)  (h : TT) : GO p l e R s m args below meth c w 2 fIT (f_X7_slow_32 x1 h) 32 [(1, .int x1)] [] h := by
  unfold f_X7_slow_32
  refine g_iload_n (pc := 32) C 0 rfl dX7_slow_32 rfl ?_
  exact g_iretT C dX7_slow_33
def f_X7_slow (h : TT)  : Option (Int32 × TT) := (if (h.1 41 0) = 0 then some ((-4 : Int32), h) else (f_X7_leastMinutes h).bind fun q2 => nm (q2.1) fun y3 => (if y3 = (-9 : Int32) then f_X7_slow_32 y3 q2.2 else (f_X7_leastCold q2.2).bind fun q5 => nm (wr q5.2 0 13 q5.1) fun h6 => f_X7_slow_32 y3 h6))
set_option maxRecDepth 20000 in
theorem m_X7_slow {l : Launch} {w : WK} {h : TT}  {x : (Int32 × TT)} (hx : f_X7_slow h  = some x)  : Met l yX7_slow (Cond.code yX7_slow cX7_slow 2 (some .int) :: wsG) { frames := 6, cells := 0, slots := 0, locals := 140 } (PG w [.ref (w.2.1 (0))] h) (QG w (fIT x)) 0 0 (AA w) := by
  refine m_entry (own := RX7) (f := fIT) hx (by decide) rfl (Nat.le_of_ble_eq_true rfl) (fun p e s m args below meth c C => ?_)
  show GO p l e _ s m args below meth c w 2 fIT (f_X7_slow h ) 0 [(0, .ref (w.2.1 (0)))] [] h
  unfold f_X7_slow
  refine g_aload_n (pc := 0) C 0 rfl dX7_slow_0 rfl ?_
  refine g_get (pc := 1) C so_RX7 6 fl_RX7_49 (v := .ref (w.2.1 (41))) rfl dX7_slow_1 ?_
  refine g_get (pc := 4) C (so_RX0 isB41) 0 fl_RX7_189 (v := .int (h.1 41 0)) rfl dX7_slow_4 ?_
  refine g_if_ne (pc := 7) (tgt := 13) C dX7_slow_7 (by decide) (fun hc1 => ?_) (fun hc1 => ?_)
  · refine g_bipush (pc := 10) (v := -4) C dX7_slow_10 kb_m4 ?_
    exact g_iretT C dX7_slow_12
  · refine g_aload_n (pc := 13) C 0 rfl dX7_slow_13 rfl ?_
    refine g_callIT (pc := 14) (rest := []) (g_runV C mv_RX7_246 (fun x1 hx1 => m_X7_leastMinutes hx1) so_RX7 rfl (by decide) rfl rfl (Nat.le_of_ble_eq_true rfl) dX7_slow_14) (fun q2 => ?_)
    refine g_nmi (fun y3 => ?_)
    refine g_istore_n (pc := 17) C dX7_slow_17 rfl (by decide) (lv' := [(1, .int y3), (0, .ref (w.2.1 (0)))]) rfl ?_
    refine g_iload_n (pc := 18) C 0 rfl dX7_slow_18 rfl ?_
    refine g_bipush (pc := 19) (v := -9) C dX7_slow_19 kb_m9 ?_
    refine g_icmp_eq (pc := 21) (tgt := 32) C dX7_slow_21 (by decide) (fun hc4 => ?_) (fun hc4 => ?_)
    · refine g_lv (lv' := [(1, .int y3)]) [0] rfl ?_
      exact j_X7_slow_32 C y3 q2.2
    · refine g_aload_n (pc := 24) C 1 rfl dX7_slow_24 rfl ?_
      refine g_aload_n (pc := 25) C 1 rfl dX7_slow_25 rfl ?_
      refine g_callIT (pc := 26) (rest := [.ref (w.2.1 (0))]) (g_runV C mv_RX7_249 (fun x1 hx1 => m_X7_leastCold hx1) so_RX7 rfl (by decide) rfl rfl (Nat.le_of_ble_eq_true rfl) dX7_slow_26) (fun q5 => ?_)
      refine g_putI (pc := 29) C so_RX7 13 fp_RX7_88 (se_RX7_13 _) rfl rfl (sl_RX7_13) dX7_slow_29 ?_
      refine g_nm (fun h6 => ?_)
      refine g_lv (lv' := [(1, .int y3)]) [0] rfl ?_
      exact j_X7_slow_32 C y3 h6
/-- SnowHouse$Build.bend(I)V -/
def f_X0_bend_59 (o0 : Nat) (k2 : Int32 → Int32 → TT → Option TT) (x1 : Int32) (x2 : Int32) (h : TT) : Option TT := k2 x1 (x2 + (1 : Int32)) h
set_option maxRecDepth 20000 in
theorem j_X0_bend_59 {p : Program} {l : Launch} {e : Env} {R : Room} {s : State} {m : MethodId} {args : Array Value} {below : List Frame} {meth : Method} {c : Code} {w : WK} (C : CX p R s m args meth c w RX0 cX0_bend 4 none 2 46)  {o0 : Nat} (ho0 : IsB o0) {k2 : Int32 → Int32 → TT → Option TT} (hk2 : ∀ (x1 : Int32) (x2 : Int32)  (h : TT), GO p l e R s m args below meth c w 4 fV (k2 x1 x2 h) 2 [(0, .ref (w.2.1 (o0))), (1, .int x1), (2, .int x2)] [] h) (x1 : Int32) (x2 : Int32)  (h : TT) : GO p l e R s m args below meth c w 4 fV (f_X0_bend_59 o0 k2 x1 x2 h) 59 [(0, .ref (w.2.1 (o0))), (1, .int x1), (2, .int x2)] [] h := by
  unfold f_X0_bend_59
  refine g_iinc (pc := 59) C 2 rfl dX0_bend_59 (ki_1 _) (by decide) (lv' := [(2, .int (x2 + (1 : Int32))), (0, .ref (w.2.1 (o0))), (1, .int x1)]) rfl ?_
  refine g_goto (pc := 62) (tgt := 2) C dX0_bend_62 (by decide) ?_
  refine g_lv (lv' := [(0, .ref (w.2.1 (o0))), (1, .int x1), (2, .int (x2 + (1 : Int32)))]) [1, 2, 0] rfl ?_
  exact hk2 x1 (x2 + (1 : Int32)) h
def f_X0_bend_27 (o0 : Nat) (k2 : Int32 → Int32 → TT → Option TT) (x1 : Int32) (x2 : Int32) (xs0 : Int32) (h : TT) : Option TT := if inb x2 8 = true then (if (h.1 (o0 + 3 + 1) x2.toNatClampNeg) = xs0 then f_X0_bend_59 o0 k2 x1 x2 h else if inb x2 8 = true then nm (wr h (o0 + 3 + 1) x2.toNatClampNeg xs0) fun h6 => (f_X0_joinCourse h6 o0 x2).bind fun h7 => f_X0_bend_59 o0 k2 x1 x2 h7 else none) else none
set_option maxRecDepth 20000 in
theorem j_X0_bend_27 {p : Program} {l : Launch} {e : Env} {R : Room} {s : State} {m : MethodId} {args : Array Value} {below : List Frame} {meth : Method} {c : Code} {w : WK} (C : CX p R s m args meth c w RX0 cX0_bend 4 none 2 46)  {o0 : Nat} (ho0 : IsB o0) {k2 : Int32 → Int32 → TT → Option TT} (hk2 : ∀ (x1 : Int32) (x2 : Int32)  (h : TT), GO p l e R s m args below meth c w 4 fV (k2 x1 x2 h) 2 [(0, .ref (w.2.1 (o0))), (1, .int x1), (2, .int x2)] [] h) (x1 : Int32) (x2 : Int32) (xs0 : Int32)  (h : TT) : GO p l e R s m args below meth c w 4 fV (f_X0_bend_27 o0 k2 x1 x2 xs0 h) 27 [(0, .ref (w.2.1 (o0))), (1, .int x1), (2, .int x2)] [.int xs0] h := by
  unfold f_X0_bend_27
  refine g_istore_n (pc := 27) C dX0_bend_27 rfl (by decide) (lv' := [(3, .int xs0), (0, .ref (w.2.1 (o0))), (1, .int x1), (2, .int x2)]) rfl ?_
  refine g_aload_n (pc := 28) C 1 rfl dX0_bend_28 rfl ?_
  refine g_get (pc := 29) C (so_RX0 ho0) 2 fl_RX0_21 (v := .ref (w.2.1 (o0 + 3))) rfl dX0_bend_29 ?_
  refine g_get (pc := 32) C (so_RX3 (isP_B ho0)) 4 fl_RX0_118 (v := .ref (w.2.1 (o0 + 3 + 1))) rfl dX0_bend_32 ?_
  refine g_iload_n (pc := 35) C 3 rfl dX0_bend_35 rfl ?_
  refine g_iald (pc := 36) C (siP1 (isP_B ho0)) dX0_bend_36 (fun hb3 => ?_)
  refine g_iload_n (pc := 37) C 0 rfl dX0_bend_37 rfl ?_
  refine g_icmp_ne (pc := 38) (tgt := 44) C dX0_bend_38 (by decide) (fun hc4 => ?_) (fun hc4 => ?_)
  · refine g_goto (pc := 41) (tgt := 59) C dX0_bend_41 (by decide) ?_
    refine g_lv (lv' := [(0, .ref (w.2.1 (o0))), (1, .int x1), (2, .int x2)]) [1, 2, 3] rfl ?_
    exact j_X0_bend_59 C ho0 hk2 x1 x2 h
  · refine g_aload_n (pc := 44) C 1 rfl dX0_bend_44 rfl ?_
    refine g_get (pc := 45) C (so_RX0 ho0) 2 fl_RX0_21 (v := .ref (w.2.1 (o0 + 3))) rfl dX0_bend_45 ?_
    refine g_get (pc := 48) C (so_RX3 (isP_B ho0)) 4 fl_RX0_118 (v := .ref (w.2.1 (o0 + 3 + 1))) rfl dX0_bend_48 ?_
    refine g_iload_n (pc := 51) C 3 rfl dX0_bend_51 rfl ?_
    refine g_iload_n (pc := 52) C 0 rfl dX0_bend_52 rfl ?_
    refine g_iast (pc := 53) C (siP1 (isP_B ho0)) dX0_bend_53 (fun hb5 => ?_)
    refine g_nm (fun h6 => ?_)
    refine g_aload_n (pc := 54) C 1 rfl dX0_bend_54 rfl ?_
    refine g_iload_n (pc := 55) C 3 rfl dX0_bend_55 rfl ?_
    refine g_callV (pc := 56) (rest := []) (g_runV C mv_RX0_108 (fun x1 hx1 => m_X0_joinCourse hx1 ho0) (so_RX0 ho0) rfl (by decide) rfl rfl (Nat.le_of_ble_eq_true rfl) dX0_bend_56) (fun h7 => ?_)
    refine g_lv (lv' := [(0, .ref (w.2.1 (o0))), (1, .int x1), (2, .int x2)]) [1, 2, 3] rfl ?_
    exact j_X0_bend_59 C ho0 hk2 x1 x2 h7
def f_X0_bend_2 (o0 : Nat)  : Nat → Int32 → Int32 → TT → Option TT
  | 0, _, _, _ => none
  | n + 1, x1, x2, h => (if (h.1 (o0 + 3) 1) ≤ x2 then some h else (if ((x1 >>> (x2 &&& 31)) &&& (1 : Int32)) = (1 : Int32) then f_X0_bend_27 o0 (f_X0_bend_2 o0 n) x1 x2 (2 : Int32) h else f_X0_bend_27 o0 (f_X0_bend_2 o0 n) x1 x2 (1 : Int32) h))
set_option maxRecDepth 20000 in
theorem j_X0_bend_2 {p : Program} {l : Launch} {e : Env} {R : Room} {s : State} {m : MethodId} {args : Array Value} {below : List Frame} {meth : Method} {c : Code} {w : WK} (C : CX p R s m args meth c w RX0 cX0_bend 4 none 2 46)  {o0 : Nat} (ho0 : IsB o0)  : ∀ (n : Nat) (x1 : Int32) (x2 : Int32) (h : TT), GO p l e R s m args below meth c w 4 fV (f_X0_bend_2 o0 n x1 x2 h) 2 [(0, .ref (w.2.1 (o0))), (1, .int x1), (2, .int x2)] [] h := by
  intro n
  induction n with
  | zero =>
    intro x1 x2 h
    exact g_none
  | succ n ih =>
    intro x1 x2 h
    rw [f_X0_bend_2]
    refine g_iload_n (pc := 2) C 2 rfl dX0_bend_2 rfl ?_
    refine g_aload_n (pc := 3) C 0 rfl dX0_bend_3 rfl ?_
    refine g_get (pc := 4) C (so_RX0 ho0) 2 fl_RX0_21 (v := .ref (w.2.1 (o0 + 3))) rfl dX0_bend_4 ?_
    refine g_get (pc := 7) C (so_RX3 (isP_B ho0)) 1 fl_RX0_98 (v := .int (h.1 (o0 + 3) 1)) rfl dX0_bend_7 ?_
    refine g_icmp_ge (pc := 10) (tgt := 65) C dX0_bend_10 (by decide) (fun hc1 => ?_) (fun hc1 => ?_)
    · exact g_vret C dX0_bend_65
    · refine g_iload_n (pc := 13) C 1 rfl dX0_bend_13 rfl ?_
      refine g_iload_n (pc := 14) C 2 rfl dX0_bend_14 rfl ?_
      refine g_ishr (pc := 15) C dX0_bend_15 ?_
      refine g_iconst (pc := 16) (v := 1) C dX0_bend_16 kc_1 ?_
      refine g_iand (pc := 17) C dX0_bend_17 ?_
      refine g_iconst (pc := 18) (v := 1) C dX0_bend_18 kc_1 ?_
      refine g_icmp_ne (pc := 19) (tgt := 26) C dX0_bend_19 (by decide) (fun hc2 => ?_) (fun hc2 => ?_)
      · refine g_iconst (pc := 22) (v := 2) C dX0_bend_22 kc_2 ?_
        refine g_goto (pc := 23) (tgt := 27) C dX0_bend_23 (by decide) ?_
        exact j_X0_bend_27 C ho0 ih x1 x2 (2 : Int32) h
      · refine g_iconst (pc := 26) (v := 1) C dX0_bend_26 kc_1 ?_
        exact j_X0_bend_27 C ho0 ih x1 x2 (1 : Int32) h
def f_X0_bend (h : TT) (o0 : Nat) (x1 : Int32) : Option TT := f_X0_bend_2 o0 KF x1 (0 : Int32) h
set_option maxRecDepth 20000 in
theorem m_X0_bend {l : Launch} {w : WK} {h : TT} {o0 : Nat} {x1 : Int32} {x : TT} (hx : f_X0_bend h o0 x1 = some x) (ho0 : IsB o0) : Met l yX0_bend (Cond.code yX0_bend cX0_bend 4 none :: wsG) { frames := 2, cells := 0, slots := 0, locals := 46 } (PG w [.ref (w.2.1 (o0)), .int x1] h) (QG w (fV x)) 0 0 (AA w) := by
  refine m_entry (own := RX0) (f := fV) hx (by decide) rfl (Nat.le_of_ble_eq_true rfl) (fun p e s m args below meth c C => ?_)
  show GO p l e _ s m args below meth c w 4 fV (f_X0_bend h o0 x1) 0 [(0, .ref (w.2.1 (o0))), (1, .int x1)] [] h
  unfold f_X0_bend
  refine g_iconst (pc := 0) (v := 0) C dX0_bend_0 kc_0 ?_
  refine g_istore_n (pc := 1) C dX0_bend_1 rfl (by decide) (lv' := [(2, .int (0 : Int32)), (0, .ref (w.2.1 (o0))), (1, .int x1)]) rfl ?_
  refine g_lv (lv' := [(0, .ref (w.2.1 (o0))), (1, .int x1), (2, .int (0 : Int32))]) [1, 2, 0] rfl ?_
  exact j_X0_bend_2 C ho0 KF x1 (0 : Int32) h
/-- SnowHouse.spiral()I -/
def f_X7_spiral_94   (x1 : Int32) (x2 : Int32) (h : TT) : Option (Int32 × TT) := nm (wr h 0 13 x2) fun h5 => some (x1, h5)
set_option maxRecDepth 20000 in
theorem j_X7_spiral_94 {p : Program} {l : Launch} {e : Env} {R : Room} {s : State} {m : MethodId} {args : Array Value} {below : List Frame} {meth : Method} {c : Code} {w : WK} (C : CX p R s m args meth c w RX7 cX7_spiral 6 (some .int) 5 119)     (x1 : Int32) (x2 : Int32)  (h : TT) : GO p l e R s m args below meth c w 6 fIT (f_X7_spiral_94 x1 x2 h) 94 [(0, .ref (w.2.1 (0))), (1, .int x1), (2, .int x2)] [] h := by
  unfold f_X7_spiral_94
  refine g_aload_n (pc := 94) C 0 rfl dX7_spiral_94 rfl ?_
  refine g_iload_n (pc := 95) C 2 rfl dX7_spiral_95 rfl ?_
  refine g_putI (pc := 96) C so_RX7 13 fp_RX7_88 (se_RX7_13 _) rfl rfl (sl_RX7_13) dX7_spiral_96 ?_
  refine g_nm (fun h5 => ?_)
  refine g_iload_n (pc := 99) C 1 rfl dX7_spiral_99 rfl ?_
  exact g_iretT C dX7_spiral_100
def f_X7_spiral_88  (k45 : Int32 → Int32 → Int32 → Int32 → TT → Option (Int32 × TT)) (x1 : Int32) (x2 : Int32) (x3 : Int32) (x4 : Int32) (h : TT) : Option (Int32 × TT) := k45 x1 x2 x3 (x4 + (1 : Int32)) h
set_option maxRecDepth 20000 in
theorem j_X7_spiral_88 {p : Program} {l : Launch} {e : Env} {R : Room} {s : State} {m : MethodId} {args : Array Value} {below : List Frame} {meth : Method} {c : Code} {w : WK} (C : CX p R s m args meth c w RX7 cX7_spiral 6 (some .int) 5 119)    {k45 : Int32 → Int32 → Int32 → Int32 → TT → Option (Int32 × TT)} (hk45 : ∀ (x1 : Int32) (x2 : Int32) (x3 : Int32) (x4 : Int32)  (h : TT), GO p l e R s m args below meth c w 6 fIT (k45 x1 x2 x3 x4 h) 45 [(0, .ref (w.2.1 (0))), (1, .int x1), (2, .int x2), (3, .int x3), (4, .int x4)] [] h) (x1 : Int32) (x2 : Int32) (x3 : Int32) (x4 : Int32)  (h : TT) : GO p l e R s m args below meth c w 6 fIT (f_X7_spiral_88 k45 x1 x2 x3 x4 h) 88 [(0, .ref (w.2.1 (0))), (1, .int x1), (2, .int x2), (3, .int x3), (4, .int x4)] [] h := by
  unfold f_X7_spiral_88
  refine g_iinc (pc := 88) C 4 rfl dX7_spiral_88 (ki_1 _) (by decide) (lv' := [(4, .int (x4 + (1 : Int32))), (0, .ref (w.2.1 (0))), (1, .int x1), (2, .int x2), (3, .int x3)]) rfl ?_
  refine g_goto (pc := 91) (tgt := 45) C dX7_spiral_91 (by decide) ?_
  refine g_lv (lv' := [(0, .ref (w.2.1 (0))), (1, .int x1), (2, .int x2), (3, .int x3), (4, .int (x4 + (1 : Int32)))]) [1, 2, 3, 4, 0] rfl ?_
  exact hk45 x1 x2 x3 (x4 + (1 : Int32)) h
def f_X7_spiral_45   : Nat → Int32 → Int32 → Int32 → Int32 → TT → Option (Int32 × TT)
  | 0, _, _, _, _, _ => none
  | n + 1, x1, x2, x3, x4, h => (if x3 ≤ x4 then f_X7_spiral_94 x1 x2 h else (if x2 ≤ 0 then f_X7_spiral_94 x1 x2 h else (f_X0_bend h 110 x4).bind fun h7 => (f_X0_raise h7 110 (x2 - (1 : Int32))).bind fun q8 => nm (q8.1) fun y9 => (if x2 ≤ y9 then f_X7_spiral_88 (f_X7_spiral_45 n) x1 x2 x3 x4 q8.2 else f_X7_spiral_88 (f_X7_spiral_45 n) x4 y9 x3 x4 q8.2)))
set_option maxRecDepth 20000 in
theorem j_X7_spiral_45 {p : Program} {l : Launch} {e : Env} {R : Room} {s : State} {m : MethodId} {args : Array Value} {below : List Frame} {meth : Method} {c : Code} {w : WK} (C : CX p R s m args meth c w RX7 cX7_spiral 6 (some .int) 5 119)     : ∀ (n : Nat) (x1 : Int32) (x2 : Int32) (x3 : Int32) (x4 : Int32) (h : TT), GO p l e R s m args below meth c w 6 fIT (f_X7_spiral_45 n x1 x2 x3 x4 h) 45 [(0, .ref (w.2.1 (0))), (1, .int x1), (2, .int x2), (3, .int x3), (4, .int x4)] [] h := by
  intro n
  induction n with
  | zero =>
    intro x1 x2 x3 x4 h
    exact g_none
  | succ n ih =>
    intro x1 x2 x3 x4 h
    rw [f_X7_spiral_45]
    refine g_iload (pc := 45) C 4 rfl dX7_spiral_45 ?_
    refine g_iload_n (pc := 47) C 3 rfl dX7_spiral_47 rfl ?_
    refine g_icmp_ge (pc := 48) (tgt := 94) C dX7_spiral_48 (by decide) (fun hc4 => ?_) (fun hc4 => ?_)
    · refine g_lv (lv' := [(0, .ref (w.2.1 (0))), (1, .int x1), (2, .int x2)]) [0, 1, 2] rfl ?_
      exact j_X7_spiral_94 C x1 x2 h
    · refine g_iload_n (pc := 51) C 2 rfl dX7_spiral_51 rfl ?_
      refine g_if_le (pc := 52) (tgt := 94) C dX7_spiral_52 (by decide) (fun hc6 => ?_) (fun hc6 => ?_)
      · refine g_lv (lv' := [(0, .ref (w.2.1 (0))), (1, .int x1), (2, .int x2)]) [0, 1, 2] rfl ?_
        exact j_X7_spiral_94 C x1 x2 h
      · refine g_aload_n (pc := 55) C 0 rfl dX7_spiral_55 rfl ?_
        refine g_get (pc := 56) C so_RX7 8 fl_RX7_57 (v := .ref (w.2.1 (110))) rfl dX7_spiral_56 ?_
        refine g_iload (pc := 59) C 4 rfl dX7_spiral_59 ?_
        refine g_callV (pc := 61) (rest := []) (g_runV C mv_RX7_252 (fun x1 hx1 => m_X0_bend hx1 isB110) (so_RX0 isB110) rfl (by decide) rfl rfl (Nat.le_of_ble_eq_true rfl) dX7_spiral_61) (fun h7 => ?_)
        refine g_aload_n (pc := 64) C 0 rfl dX7_spiral_64 rfl ?_
        refine g_get (pc := 65) C so_RX7 8 fl_RX7_57 (v := .ref (w.2.1 (110))) rfl dX7_spiral_65 ?_
        refine g_iload_n (pc := 68) C 2 rfl dX7_spiral_68 rfl ?_
        refine g_iconst (pc := 69) (v := 1) C dX7_spiral_69 kc_1 ?_
        refine g_isub (pc := 70) C dX7_spiral_70 ?_
        refine g_callIT (pc := 71) (rest := []) (g_runV C mv_RX7_237 (fun x1 hx1 => m_X0_raise hx1 isB110) (so_RX0 isB110) rfl (by decide) rfl rfl (Nat.le_of_ble_eq_true rfl) dX7_spiral_71) (fun q8 => ?_)
        refine g_nmi (fun y9 => ?_)
        refine g_istore (pc := 74) C dX7_spiral_74 (by decide) (lv' := [(5, .int y9), (0, .ref (w.2.1 (0))), (1, .int x1), (2, .int x2), (3, .int x3), (4, .int x4)]) rfl ?_
        refine g_iload (pc := 76) C 0 rfl dX7_spiral_76 ?_
        refine g_iload_n (pc := 78) C 3 rfl dX7_spiral_78 rfl ?_
        refine g_icmp_ge (pc := 79) (tgt := 88) C dX7_spiral_79 (by decide) (fun hc10 => ?_) (fun hc10 => ?_)
        · refine g_lv (lv' := [(0, .ref (w.2.1 (0))), (1, .int x1), (2, .int x2), (3, .int x3), (4, .int x4)]) [1, 2, 3, 4, 5] rfl ?_
          exact j_X7_spiral_88 C ih x1 x2 x3 x4 q8.2
        · refine g_iload (pc := 82) C 0 rfl dX7_spiral_82 ?_
          refine g_istore_n (pc := 84) C dX7_spiral_84 rfl (by decide) (lv' := [(2, .int y9), (5, .int y9), (0, .ref (w.2.1 (0))), (1, .int x1), (3, .int x3), (4, .int x4)]) rfl ?_
          refine g_iload (pc := 85) C 5 rfl dX7_spiral_85 ?_
          refine g_istore_n (pc := 87) C dX7_spiral_87 rfl (by decide) (lv' := [(1, .int x4), (2, .int y9), (5, .int y9), (0, .ref (w.2.1 (0))), (3, .int x3), (4, .int x4)]) rfl ?_
          refine g_lv (lv' := [(0, .ref (w.2.1 (0))), (1, .int x4), (2, .int y9), (3, .int x3), (4, .int x4)]) [3, 0, 1, 4, 5] rfl ?_
          exact j_X7_spiral_88 C ih x4 y9 x3 x4 q8.2
def f_X7_spiral (h : TT)  : Option (Int32 × TT) := (if (h.1 41 0) = 0 then some ((-4 : Int32), h) else (f_X0_takeFrom h 110 41).bind fun h2 => nm ((1 : Int32) <<< ((h2.1 (41 + 3) 1) &&& 31)) fun y3 => f_X7_spiral_45 KF (0 : Int32) (61 : Int32) y3 (0 : Int32) h2)
set_option maxRecDepth 20000 in
theorem m_X7_spiral {l : Launch} {w : WK} {h : TT}  {x : (Int32 × TT)} (hx : f_X7_spiral h  = some x)  : Met l yX7_spiral (Cond.code yX7_spiral cX7_spiral 6 (some .int) :: wsG) { frames := 5, cells := 0, slots := 0, locals := 119 } (PG w [.ref (w.2.1 (0))] h) (QG w (fIT x)) 0 0 (AA w) := by
  refine m_entry (own := RX7) (f := fIT) hx (by decide) rfl (Nat.le_of_ble_eq_true rfl) (fun p e s m args below meth c C => ?_)
  show GO p l e _ s m args below meth c w 6 fIT (f_X7_spiral h ) 0 [(0, .ref (w.2.1 (0)))] [] h
  unfold f_X7_spiral
  refine g_aload_n (pc := 0) C 0 rfl dX7_spiral_0 rfl ?_
  refine g_get (pc := 1) C so_RX7 6 fl_RX7_49 (v := .ref (w.2.1 (41))) rfl dX7_spiral_1 ?_
  refine g_get (pc := 4) C (so_RX0 isB41) 0 fl_RX7_189 (v := .int (h.1 41 0)) rfl dX7_spiral_4 ?_
  refine g_if_ne (pc := 7) (tgt := 13) C dX7_spiral_7 (by decide) (fun hc1 => ?_) (fun hc1 => ?_)
  · refine g_bipush (pc := 10) (v := -4) C dX7_spiral_10 kb_m4 ?_
    exact g_iretT C dX7_spiral_12
  · refine g_aload_n (pc := 13) C 0 rfl dX7_spiral_13 rfl ?_
    refine g_get (pc := 14) C so_RX7 8 fl_RX7_57 (v := .ref (w.2.1 (110))) rfl dX7_spiral_14 ?_
    refine g_aload_n (pc := 17) C 0 rfl dX7_spiral_17 rfl ?_
    refine g_get (pc := 18) C so_RX7 6 fl_RX7_49 (v := .ref (w.2.1 (41))) rfl dX7_spiral_18 ?_
    refine g_callV (pc := 21) (rest := []) (g_runV C mv_RX7_230 (fun x1 hx1 => m_X0_takeFrom hx1 isB110 isB41) (so_RX0 isB110) rfl (by decide) rfl rfl (Nat.le_of_ble_eq_true rfl) dX7_spiral_21) (fun h2 => ?_)
    refine g_iconst (pc := 24) (v := 0) C dX7_spiral_24 kc_0 ?_
    refine g_istore_n (pc := 25) C dX7_spiral_25 rfl (by decide) (lv' := [(1, .int (0 : Int32)), (0, .ref (w.2.1 (0)))]) rfl ?_
    refine g_bipush (pc := 26) (v := 61) C dX7_spiral_26 kb_61 ?_
    refine g_istore_n (pc := 28) C dX7_spiral_28 rfl (by decide) (lv' := [(2, .int (61 : Int32)), (1, .int (0 : Int32)), (0, .ref (w.2.1 (0)))]) rfl ?_
    refine g_iconst (pc := 29) (v := 1) C dX7_spiral_29 kc_1 ?_
    refine g_aload_n (pc := 30) C 2 rfl dX7_spiral_30 rfl ?_
    refine g_get (pc := 31) C so_RX7 6 fl_RX7_49 (v := .ref (w.2.1 (41))) rfl dX7_spiral_31 ?_
    refine g_get (pc := 34) C (so_RX0 isB41) 2 fl_RX7_185 (v := .ref (w.2.1 (41 + 3))) rfl dX7_spiral_34 ?_
    refine g_get (pc := 37) C (so_RX3 (isP_B isB41)) 1 fl_RX7_168 (v := .int (h2.1 (41 + 3) 1)) rfl dX7_spiral_37 ?_
    refine g_ishl (pc := 40) C dX7_spiral_40 ?_
    refine g_nmi (fun y3 => ?_)
    refine g_istore_n (pc := 41) C dX7_spiral_41 rfl (by decide) (lv' := [(3, .int y3), (2, .int (61 : Int32)), (1, .int (0 : Int32)), (0, .ref (w.2.1 (0)))]) rfl ?_
    refine g_iconst (pc := 42) (v := 0) C dX7_spiral_42 kc_0 ?_
    refine g_istore (pc := 43) C dX7_spiral_43 (by decide) (lv' := [(4, .int (0 : Int32)), (3, .int y3), (2, .int (61 : Int32)), (1, .int (0 : Int32)), (0, .ref (w.2.1 (0)))]) rfl ?_
    refine g_lv (lv' := [(0, .ref (w.2.1 (0))), (1, .int (0 : Int32)), (2, .int (61 : Int32)), (3, .int y3), (4, .int (0 : Int32))]) [4, 3, 2, 1, 0] rfl ?_
    exact j_X7_spiral_45 C KF (0 : Int32) (61 : Int32) y3 (0 : Int32) h2
/-- SnowHouse.onesOf(I)I -/
def f_X7_onesOf_4 (h : TT)   : Nat → Int32 → Int32 → Int32 → Option Int32
  | 0, _, _, _ => none
  | n + 1, x1, x2, x3 => if inb x1 6 = true then (if (h.1 8 x1.toNatClampNeg) ≤ x3 then some x2 else if inb x1 6 = true then if inb x3 60 = true then (f_X7_isUpTo h (h.1 (2 + x1.toNatClampNeg) x3.toNatClampNeg) (1 : Int32)).bind fun r5 => (if r5 = 0 then some (-1 : Int32) else if inb x1 6 = true then if inb x3 60 = true then nm (x2 + (h.1 (2 + x1.toNatClampNeg) x3.toNatClampNeg)) fun y9 => f_X7_onesOf_4 h n x1 y9 (x3 + (1 : Int32)) else none else none) else none else none) else none
set_option maxRecDepth 20000 in
theorem j_X7_onesOf_4 {p : Program} {l : Launch} {e : Env} {R : Room} {s : State} {m : MethodId} {args : Array Value} {below : List Frame} {meth : Method} {c : Code} {w : WK} (C : CX p R s m args meth c w RX7 cX7_onesOf 4 (some .int) 1 21) (h : TT)    : ∀ (n : Nat) (x1 : Int32) (x2 : Int32) (x3 : Int32), GO p l e R s m args below meth c w 4 (fI h) (f_X7_onesOf_4 h n x1 x2 x3) 4 [(0, .ref (w.2.1 (0))), (1, .int x1), (2, .int x2), (3, .int x3)] [] h := by
  intro n
  induction n with
  | zero =>
    intro x1 x2 x3
    exact g_none
  | succ n ih =>
    intro x1 x2 x3
    rw [f_X7_onesOf_4]
    refine g_iload_n (pc := 4) C 3 rfl dX7_onesOf_4 rfl ?_
    refine g_aload_n (pc := 5) C 0 rfl dX7_onesOf_5 rfl ?_
    refine g_get (pc := 6) C so_RX7 1 fl_RX7_14 (v := .ref (w.2.1 (8))) rfl dX7_onesOf_6 ?_
    refine g_iload_n (pc := 9) C 1 rfl dX7_onesOf_9 rfl ?_
    refine g_iald (pc := 10) C si_8 dX7_onesOf_10 (fun hb1 => ?_)
    refine g_icmp_ge (pc := 11) (tgt := 48) C dX7_onesOf_11 (by decide) (fun hc2 => ?_) (fun hc2 => ?_)
    · refine g_iload_n (pc := 48) C 2 rfl dX7_onesOf_48 rfl ?_
      exact g_iret C dX7_onesOf_49
    · refine g_aload_n (pc := 14) C 0 rfl dX7_onesOf_14 rfl ?_
      refine g_get (pc := 15) C so_RX7 0 fl_RX7_11 (v := .ref (w.2.1 (1))) rfl dX7_onesOf_15 ?_
      refine g_iload_n (pc := 18) C 1 rfl dX7_onesOf_18 rfl ?_
      refine g_aald (pc := 19) (cA := 0) C sr_rows rfl rfl dX7_onesOf_19 (fun hb3 => ?_)
      refine g_iload_n (pc := 20) C 3 rfl dX7_onesOf_20 rfl ?_
      refine g_iald (pc := 21) C (siRow hb3) dX7_onesOf_21 (fun hb4 => ?_)
      refine g_iconst (pc := 22) (v := 1) C dX7_onesOf_22 kc_1 ?_
      refine g_callI (pc := 23) (rest := []) (g_runS C ms_RX7_186 (fun x1 hx1 => m_X7_isUpTo hx1) (by decide) rfl rfl (Nat.le_of_ble_eq_true rfl) dX7_onesOf_23) (fun r5 => ?_)
      refine g_if_ne (pc := 26) (tgt := 31) C dX7_onesOf_26 (by decide) (fun hc6 => ?_) (fun hc6 => ?_)
      · refine g_iconst (pc := 29) (v := -1) C dX7_onesOf_29 kc_m1 ?_
        exact g_iret C dX7_onesOf_30
      · refine g_iload_n (pc := 31) C 2 rfl dX7_onesOf_31 rfl ?_
        refine g_aload_n (pc := 32) C 0 rfl dX7_onesOf_32 rfl ?_
        refine g_get (pc := 33) C so_RX7 0 fl_RX7_11 (v := .ref (w.2.1 (1))) rfl dX7_onesOf_33 ?_
        refine g_iload_n (pc := 36) C 1 rfl dX7_onesOf_36 rfl ?_
        refine g_aald (pc := 37) (cA := 0) C sr_rows rfl rfl dX7_onesOf_37 (fun hb7 => ?_)
        refine g_iload_n (pc := 38) C 3 rfl dX7_onesOf_38 rfl ?_
        refine g_iald (pc := 39) C (siRow hb7) dX7_onesOf_39 (fun hb8 => ?_)
        refine g_iadd (pc := 40) C dX7_onesOf_40 ?_
        refine g_nmi (fun y9 => ?_)
        refine g_istore_n (pc := 41) C dX7_onesOf_41 rfl (by decide) (lv' := [(2, .int y9), (0, .ref (w.2.1 (0))), (1, .int x1), (3, .int x3)]) rfl ?_
        refine g_iinc (pc := 42) C 3 rfl dX7_onesOf_42 (ki_1 _) (by decide) (lv' := [(3, .int (x3 + (1 : Int32))), (2, .int y9), (0, .ref (w.2.1 (0))), (1, .int x1)]) rfl ?_
        refine g_goto (pc := 45) (tgt := 4) C dX7_onesOf_45 (by decide) ?_
        refine g_lv (lv' := [(0, .ref (w.2.1 (0))), (1, .int x1), (2, .int y9), (3, .int (x3 + (1 : Int32)))]) [2, 3, 1, 0] rfl ?_
        exact ih x1 y9 (x3 + (1 : Int32))
def f_X7_onesOf (h : TT) (x1 : Int32) : Option Int32 := f_X7_onesOf_4 h KF x1 (0 : Int32) (0 : Int32)
set_option maxRecDepth 20000 in
theorem m_X7_onesOf {l : Launch} {w : WK} {h : TT} {x1 : Int32} {x : Int32} (hx : f_X7_onesOf h x1 = some x)  : Met l yX7_onesOf (Cond.code yX7_onesOf cX7_onesOf 4 (some .int) :: wsG) { frames := 1, cells := 0, slots := 0, locals := 21 } (PG w [.ref (w.2.1 (0)), .int x1] h) (QG w ((fI h) x)) 0 0 (AA w) := by
  refine m_entry (own := RX7) (f := (fI h)) hx (by decide) rfl (Nat.le_of_ble_eq_true rfl) (fun p e s m args below meth c C => ?_)
  show GO p l e _ s m args below meth c w 4 (fI h) (f_X7_onesOf h x1) 0 [(0, .ref (w.2.1 (0))), (1, .int x1)] [] h
  unfold f_X7_onesOf
  refine g_iconst (pc := 0) (v := 0) C dX7_onesOf_0 kc_0 ?_
  refine g_istore_n (pc := 1) C dX7_onesOf_1 rfl (by decide) (lv' := [(2, .int (0 : Int32)), (0, .ref (w.2.1 (0))), (1, .int x1)]) rfl ?_
  refine g_iconst (pc := 2) (v := 0) C dX7_onesOf_2 kc_0 ?_
  refine g_istore_n (pc := 3) C dX7_onesOf_3 rfl (by decide) (lv' := [(3, .int (0 : Int32)), (2, .int (0 : Int32)), (0, .ref (w.2.1 (0))), (1, .int x1)]) rfl ?_
  refine g_lv (lv' := [(0, .ref (w.2.1 (0))), (1, .int x1), (2, .int (0 : Int32)), (3, .int (0 : Int32))]) [2, 3, 1, 0] rfl ?_
  exact j_X7_onesOf_4 C h KF x1 (0 : Int32) (0 : Int32)
/-- SnowHouse$Plan.slipFrom(LSnowHouse$Plan;I)Z -/
def f_X3_slipFrom_33 (o0 : Nat) (o1 : Nat)  (xs0 : Int32) (xs1 : Int32) (h : TT) : Option (Int32 × TT) := nm (wr h o0 3 (xs1 + xs0)) fun h4 => (if (h4.1 o0 3) < (1 : Int32) then some ((0 : Int32), h4) else (if (9 : Int32) < (h4.1 o0 3) then some ((0 : Int32), h4) else some ((1 : Int32), h4)))
set_option maxRecDepth 20000 in
theorem j_X3_slipFrom_33 {p : Program} {l : Launch} {e : Env} {R : Room} {s : State} {m : MethodId} {args : Array Value} {below : List Frame} {meth : Method} {c : Code} {w : WK} (C : CX p R s m args meth c w RX3 cX3_slipFrom 5 (some .boolean) 2 61)  {o0 : Nat} {o1 : Nat} (ho0 : IsP o0) (ho1 : IsP o1)  (xs0 : Int32) (xs1 : Int32)  (h : TT) : GO p l e R s m args below meth c w 5 fIT (f_X3_slipFrom_33 o0 o1 xs0 xs1 h) 33 [(0, .ref (w.2.1 (o0)))] [.int xs0, .int xs1, .ref (w.2.1 (o0))] h := by
  unfold f_X3_slipFrom_33
  refine g_iadd (pc := 33) C dX3_slipFrom_33 ?_
  refine g_putI (pc := 34) C (so_RX3 ho0) 3 fp_RX3_32 (se_RX3_3 _) rfl rfl (sl_RX3_3) dX3_slipFrom_34 ?_
  refine g_nm (fun h4 => ?_)
  refine g_aload_n (pc := 37) C 0 rfl dX3_slipFrom_37 rfl ?_
  refine g_get (pc := 38) C (so_RX3 ho0) 3 fl_RX3_32 (v := .int (h4.1 o0 3)) rfl dX3_slipFrom_38 ?_
  refine g_iconst (pc := 41) (v := 1) C dX3_slipFrom_41 kc_1 ?_
  refine g_icmp_lt (pc := 42) (tgt := 58) C dX3_slipFrom_42 (by decide) (fun hc5 => ?_) (fun hc5 => ?_)
  · refine g_iconst (pc := 58) (v := 0) C dX3_slipFrom_58 kc_0 ?_
    exact g_zretT C dX3_slipFrom_59 rfl
  · refine g_aload_n (pc := 45) C 0 rfl dX3_slipFrom_45 rfl ?_
    refine g_get (pc := 46) C (so_RX3 ho0) 3 fl_RX3_32 (v := .int (h4.1 o0 3)) rfl dX3_slipFrom_46 ?_
    refine g_bipush (pc := 49) (v := 9) C dX3_slipFrom_49 kb_9 ?_
    refine g_icmp_gt (pc := 51) (tgt := 58) C dX3_slipFrom_51 (by decide) (fun hc6 => ?_) (fun hc6 => ?_)
    · refine g_iconst (pc := 58) (v := 0) C dX3_slipFrom_58 kc_0 ?_
      exact g_zretT C dX3_slipFrom_59 rfl
    · refine g_iconst (pc := 54) (v := 1) C dX3_slipFrom_54 kc_1 ?_
      refine g_goto (pc := 55) (tgt := 59) C dX3_slipFrom_55 (by decide) ?_
      exact g_zretT C dX3_slipFrom_59 rfl
def f_X3_slipFrom_17 (o0 : Nat) (o1 : Nat)  (x2 : Int32) (h : TT) : Option (Int32 × TT) := (if x2 = (80 : Int32) then f_X3_slipFrom_33 o0 o1 (-1 : Int32) (h.1 o0 3) h else f_X3_slipFrom_33 o0 o1 (1 : Int32) (h.1 o0 3) h)
set_option maxRecDepth 20000 in
theorem j_X3_slipFrom_17 {p : Program} {l : Launch} {e : Env} {R : Room} {s : State} {m : MethodId} {args : Array Value} {below : List Frame} {meth : Method} {c : Code} {w : WK} (C : CX p R s m args meth c w RX3 cX3_slipFrom 5 (some .boolean) 2 61)  {o0 : Nat} {o1 : Nat} (ho0 : IsP o0) (ho1 : IsP o1)  (x2 : Int32)  (h : TT) : GO p l e R s m args below meth c w 5 fIT (f_X3_slipFrom_17 o0 o1 x2 h) 17 [(0, .ref (w.2.1 (o0))), (2, .int x2)] [] h := by
  unfold f_X3_slipFrom_17
  refine g_aload_n (pc := 17) C 0 rfl dX3_slipFrom_17 rfl ?_
  refine g_dup (pc := 18) C dX3_slipFrom_18 rfl ?_
  refine g_get (pc := 19) C (so_RX3 ho0) 3 fl_RX3_32 (v := .int (h.1 o0 3)) rfl dX3_slipFrom_19 ?_
  refine g_iload_n (pc := 22) C 1 rfl dX3_slipFrom_22 rfl ?_
  refine g_bipush (pc := 23) (v := 80) C dX3_slipFrom_23 kb_80 ?_
  refine g_icmp_ne (pc := 25) (tgt := 32) C dX3_slipFrom_25 (by decide) (fun hc3 => ?_) (fun hc3 => ?_)
  · refine g_iconst (pc := 28) (v := -1) C dX3_slipFrom_28 kc_m1 ?_
    refine g_goto (pc := 29) (tgt := 33) C dX3_slipFrom_29 (by decide) ?_
    refine g_lv (lv' := [(0, .ref (w.2.1 (o0)))]) [0] rfl ?_
    exact j_X3_slipFrom_33 C ho0 ho1 (-1 : Int32) (h.1 o0 3) h
  · refine g_iconst (pc := 32) (v := 1) C dX3_slipFrom_32 kc_1 ?_
    refine g_lv (lv' := [(0, .ref (w.2.1 (o0)))]) [0] rfl ?_
    exact j_X3_slipFrom_33 C ho0 ho1 (1 : Int32) (h.1 o0 3) h
def f_X3_slipFrom_114 (o0 : Nat) (o1 : Nat)  (x3 : Int32) (xs0 : Int32) (xs1 : Int32) (xs2 : Int32) (h : TT) : Option (Int32 × TT) := if inb xs2 8 = true then nm (wr h (o0 + 3) xs2.toNatClampNeg (xs1 + xs0)) fun h17 => if inb x3 8 = true then (f_X7_isUpTo h17 (h17.1 (o0 + 3) x3.toNatClampNeg) (9 : Int32)).bind fun r19 => if isZ r19 = true then some (r19, h17) else none else none else none
set_option maxRecDepth 20000 in
theorem j_X3_slipFrom_114 {p : Program} {l : Launch} {e : Env} {R : Room} {s : State} {m : MethodId} {args : Array Value} {below : List Frame} {meth : Method} {c : Code} {w : WK} (C : CX p R s m args meth c w RX3 cX3_slipFrom 5 (some .boolean) 2 61)  {o0 : Nat} {o1 : Nat} (ho0 : IsP o0) (ho1 : IsP o1)  (x3 : Int32) (xs0 : Int32) (xs1 : Int32) (xs2 : Int32)  (h : TT) : GO p l e R s m args below meth c w 5 fIT (f_X3_slipFrom_114 o0 o1 x3 xs0 xs1 xs2 h) 114 [(0, .ref (w.2.1 (o0))), (3, .int x3)] [.int xs0, .int xs1, .int xs2, .ref (w.2.1 (o0 + 3))] h := by
  unfold f_X3_slipFrom_114
  refine g_iadd (pc := 114) C dX3_slipFrom_114 ?_
  refine g_iast (pc := 115) C (siP3 ho0) dX3_slipFrom_115 (fun hb16 => ?_)
  refine g_nm (fun h17 => ?_)
  refine g_aload_n (pc := 116) C 0 rfl dX3_slipFrom_116 rfl ?_
  refine g_get (pc := 117) C (so_RX3 ho0) 6 fl_RX3_18 (v := .ref (w.2.1 (o0 + 3))) rfl dX3_slipFrom_117 ?_
  refine g_iload_n (pc := 120) C 1 rfl dX3_slipFrom_120 rfl ?_
  refine g_iald (pc := 121) C (siP3 ho0) dX3_slipFrom_121 (fun hb18 => ?_)
  refine g_bipush (pc := 122) (v := 9) C dX3_slipFrom_122 kb_9 ?_
  refine g_callI (pc := 124) (rest := []) (g_runN C mn_RX3_53 (fun x1 hx1 => m_X7_isUpTo hx1) (by decide) rfl rfl (Nat.le_of_ble_eq_true rfl) dX3_slipFrom_124) (fun r19 => ?_)
  refine g_guard (fun hz20 => ?_)
  exact g_zretT C dX3_slipFrom_127 hz20
def f_X3_slipFrom (h : TT) (o0 : Nat) (o1 : Nat) (x2 : Int32) : Option (Int32 × TT) := (f_X3_takeFrom h o0 o1).bind fun h1 => (if x2 = (80 : Int32) then f_X3_slipFrom_17 o0 o1 x2 h1 else (if x2 = (90 : Int32) then f_X3_slipFrom_17 o0 o1 x2 h1 else nm (x2 / (10 : Int32)) fun y8 => nm (x2 - x2 / (10 : Int32) * (10 : Int32)) fun y9 => (f_X7_isBelow h1 y8 (h1.1 o0 1)).bind fun r10 => (if r10 = 0 then some ((0 : Int32), h1) else (f_X7_isUpTo h1 y9 (2 : Int32)).bind fun r12 => (if r12 = 0 then some ((0 : Int32), h1) else if inb y8 8 = true then (if y9 = (2 : Int32) then f_X3_slipFrom_114 o0 o1 y8 (-1 : Int32) (h1.1 (o0 + 3) y8.toNatClampNeg) y8 h1 else f_X3_slipFrom_114 o0 o1 y8 (y9 + (1 : Int32)) (h1.1 (o0 + 3) y8.toNatClampNeg) y8 h1) else none))))
set_option maxRecDepth 20000 in
theorem m_X3_slipFrom {l : Launch} {w : WK} {h : TT} {o0 : Nat} {o1 : Nat} {x2 : Int32} {x : (Int32 × TT)} (hx : f_X3_slipFrom h o0 o1 x2 = some x) (ho0 : IsP o0) (ho1 : IsP o1) : Met l yX3_slipFrom (Cond.code yX3_slipFrom cX3_slipFrom 5 (some .boolean) :: wsG) { frames := 2, cells := 0, slots := 0, locals := 61 } (PG w [.ref (w.2.1 (o0)), .ref (w.2.1 (o1)), .int x2] h) (QG w (fIT x)) 0 0 (AA w) := by
  refine m_entry (own := RX3) (f := fIT) hx (by decide) rfl (Nat.le_of_ble_eq_true rfl) (fun p e s m args below meth c C => ?_)
  show GO p l e _ s m args below meth c w 5 fIT (f_X3_slipFrom h o0 o1 x2) 0 [(0, .ref (w.2.1 (o0))), (1, .ref (w.2.1 (o1))), (2, .int x2)] [] h
  unfold f_X3_slipFrom
  refine g_aload_n (pc := 0) C 0 rfl dX3_slipFrom_0 rfl ?_
  refine g_aload_n (pc := 1) C 1 rfl dX3_slipFrom_1 rfl ?_
  refine g_callV (pc := 2) (rest := []) (g_runV C mv_RX3_49 (fun x1 hx1 => m_X3_takeFrom hx1 ho0 ho1) (so_RX3 ho0) rfl (by decide) rfl rfl (Nat.le_of_ble_eq_true rfl) dX3_slipFrom_2) (fun h1 => ?_)
  refine g_iload_n (pc := 5) C 2 rfl dX3_slipFrom_5 rfl ?_
  refine g_bipush (pc := 6) (v := 80) C dX3_slipFrom_6 kb_80 ?_
  refine g_icmp_eq (pc := 8) (tgt := 17) C dX3_slipFrom_8 (by decide) (fun hc2 => ?_) (fun hc2 => ?_)
  · refine g_lv (lv' := [(0, .ref (w.2.1 (o0))), (2, .int x2)]) [0, 2] rfl ?_
    exact j_X3_slipFrom_17 C ho0 ho1 x2 h1
  · refine g_iload_n (pc := 11) C 2 rfl dX3_slipFrom_11 rfl ?_
    refine g_bipush (pc := 12) (v := 90) C dX3_slipFrom_12 kb_90 ?_
    refine g_icmp_ne (pc := 14) (tgt := 60) C dX3_slipFrom_14 (by decide) (fun hc7 => ?_) (fun hc7 => ?_)
    · refine g_lv (lv' := [(0, .ref (w.2.1 (o0))), (2, .int x2)]) [0, 2] rfl ?_
      exact j_X3_slipFrom_17 C ho0 ho1 x2 h1
    · refine g_iload_n (pc := 60) C 2 rfl dX3_slipFrom_60 rfl ?_
      refine g_bipush (pc := 61) (v := 10) C dX3_slipFrom_61 kb_10 ?_
      refine g_idiv (pc := 63) C dX3_slipFrom_63 (by decide) ?_
      refine g_nmi (fun y8 => ?_)
      refine g_istore_n (pc := 64) C dX3_slipFrom_64 rfl (by decide) (lv' := [(3, .int y8), (0, .ref (w.2.1 (o0))), (1, .ref (w.2.1 (o1))), (2, .int x2)]) rfl ?_
      refine g_iload_n (pc := 65) C 3 rfl dX3_slipFrom_65 rfl ?_
      refine g_bipush (pc := 66) (v := 10) C dX3_slipFrom_66 kb_10 ?_
      refine g_irem (pc := 68) C dX3_slipFrom_68 (by decide) ?_
      refine g_nmi (fun y9 => ?_)
      refine g_istore (pc := 69) C dX3_slipFrom_69 (by decide) (lv' := [(4, .int y9), (3, .int y8), (0, .ref (w.2.1 (o0))), (1, .ref (w.2.1 (o1))), (2, .int x2)]) rfl ?_
      refine g_iload_n (pc := 71) C 1 rfl dX3_slipFrom_71 rfl ?_
      refine g_aload_n (pc := 72) C 2 rfl dX3_slipFrom_72 rfl ?_
      refine g_get (pc := 73) C (so_RX3 ho0) 1 fl_RX3_25 (v := .int (h1.1 o0 1)) rfl dX3_slipFrom_73 ?_
      refine g_callI (pc := 76) (rest := []) (g_runN C mn_RX3_41 (fun x1 hx1 => m_X7_isBelow hx1) (by decide) rfl rfl (Nat.le_of_ble_eq_true rfl) dX3_slipFrom_76) (fun r10 => ?_)
      refine g_if_eq (pc := 79) (tgt := 91) C dX3_slipFrom_79 (by decide) (fun hc11 => ?_) (fun hc11 => ?_)
      · refine g_iconst (pc := 91) (v := 0) C dX3_slipFrom_91 kc_0 ?_
        exact g_zretT C dX3_slipFrom_92 rfl
      · refine g_iload (pc := 82) C 0 rfl dX3_slipFrom_82 ?_
        refine g_iconst (pc := 84) (v := 2) C dX3_slipFrom_84 kc_2 ?_
        refine g_callI (pc := 85) (rest := []) (g_runN C mn_RX3_53 (fun x1 hx1 => m_X7_isUpTo hx1) (by decide) rfl rfl (Nat.le_of_ble_eq_true rfl) dX3_slipFrom_85) (fun r12 => ?_)
        refine g_if_ne (pc := 88) (tgt := 93) C dX3_slipFrom_88 (by decide) (fun hc13 => ?_) (fun hc13 => ?_)
        · refine g_iconst (pc := 91) (v := 0) C dX3_slipFrom_91 kc_0 ?_
          exact g_zretT C dX3_slipFrom_92 rfl
        · refine g_aload_n (pc := 93) C 2 rfl dX3_slipFrom_93 rfl ?_
          refine g_get (pc := 94) C (so_RX3 ho0) 6 fl_RX3_18 (v := .ref (w.2.1 (o0 + 3))) rfl dX3_slipFrom_94 ?_
          refine g_iload_n (pc := 97) C 1 rfl dX3_slipFrom_97 rfl ?_
          refine g_dup2 (pc := 98) C dX3_slipFrom_98 rfl rfl ?_
          refine g_iald (pc := 99) C (siP3 ho0) dX3_slipFrom_99 (fun hb14 => ?_)
          refine g_iload (pc := 100) C 0 rfl dX3_slipFrom_100 ?_
          refine g_iconst (pc := 102) (v := 2) C dX3_slipFrom_102 kc_2 ?_
          refine g_icmp_ne (pc := 103) (tgt := 110) C dX3_slipFrom_103 (by decide) (fun hc15 => ?_) (fun hc15 => ?_)
          · refine g_iconst (pc := 106) (v := -1) C dX3_slipFrom_106 kc_m1 ?_
            refine g_goto (pc := 107) (tgt := 114) C dX3_slipFrom_107 (by decide) ?_
            refine g_lv (lv' := [(0, .ref (w.2.1 (o0))), (3, .int y8)]) [2, 1] rfl ?_
            exact j_X3_slipFrom_114 C ho0 ho1 y8 (-1 : Int32) (h1.1 (o0 + 3) y8.toNatClampNeg) y8 h1
          · refine g_iload (pc := 110) C 0 rfl dX3_slipFrom_110 ?_
            refine g_iconst (pc := 112) (v := 1) C dX3_slipFrom_112 kc_1 ?_
            refine g_iadd (pc := 113) C dX3_slipFrom_113 ?_
            refine g_lv (lv' := [(0, .ref (w.2.1 (o0))), (3, .int y8)]) [2, 1] rfl ?_
            exact j_X3_slipFrom_114 C ho0 ho1 y8 (y9 + (1 : Int32)) (h1.1 (o0 + 3) y8.toNatClampNeg) y8 h1
/-- SnowHouse$Build.fellAs([I)Z -/
def f_X0_fellAs_48 (h : TT) (o0 : Nat) (o1 n1 : Nat) (k13 : Int32 → Option Int32) (x2 : Int32) (xs0 : Int32) (xs1 : Int32) : Option Int32 := (if xs1 = xs0 then k13 (x2 + (1 : Int32)) else some (0 : Int32))
set_option maxRecDepth 20000 in
theorem j_X0_fellAs_48 {p : Program} {l : Launch} {e : Env} {R : Room} {s : State} {m : MethodId} {args : Array Value} {below : List Frame} {meth : Method} {c : Code} {w : WK} (C : CX p R s m args meth c w RX0 cX0_fellAs 3 (some .boolean) 0 0) (h : TT) {o0 : Nat} {o1 n1 : Nat} (ho0 : IsB o0) (ho1 : SI w o1 n1) {k13 : Int32 → Option Int32} (hk13 : ∀ (x2 : Int32) , GO p l e R s m args below meth c w 3 (fI h) (k13 x2) 13 [(0, .ref (w.2.1 (o0))), (1, .ref (w.2.1 (o1))), (2, .int x2)] [] h) (x2 : Int32) (xs0 : Int32) (xs1 : Int32)  : GO p l e R s m args below meth c w 3 (fI h) (f_X0_fellAs_48 h o0 o1 n1 k13 x2 xs0 xs1) 48 [(0, .ref (w.2.1 (o0))), (1, .ref (w.2.1 (o1))), (2, .int x2)] [.int xs0, .int xs1] h := by
  unfold f_X0_fellAs_48
  refine g_icmp_eq (pc := 48) (tgt := 53) C dX0_fellAs_48 (by decide) (fun hc7 => ?_) (fun hc7 => ?_)
  · refine g_iinc (pc := 53) C 2 rfl dX0_fellAs_53 (ki_1 _) (by decide) (lv' := [(2, .int (x2 + (1 : Int32))), (0, .ref (w.2.1 (o0))), (1, .ref (w.2.1 (o1)))]) rfl ?_
    refine g_goto (pc := 56) (tgt := 13) C dX0_fellAs_56 (by decide) ?_
    refine g_lv (lv' := [(0, .ref (w.2.1 (o0))), (1, .ref (w.2.1 (o1))), (2, .int (x2 + (1 : Int32)))]) [1, 2, 0] rfl ?_
    exact hk13 (x2 + (1 : Int32))
  · refine g_iconst (pc := 51) (v := 0) C dX0_fellAs_51 kc_0 ?_
    exact g_zret C dX0_fellAs_52 rfl
def f_X0_fellAs_36 (h : TT) (o0 : Nat) (o1 n1 : Nat) (k13 : Int32 → Option Int32) (x2 : Int32) (xs0 : Int32) : Option Int32 := if inb x2 n1 = true then (if (h.1 o1 x2.toNatClampNeg) = (1 : Int32) then f_X0_fellAs_48 h o0 o1 n1 k13 x2 (1 : Int32) xs0 else f_X0_fellAs_48 h o0 o1 n1 k13 x2 (0 : Int32) xs0) else none
set_option maxRecDepth 20000 in
theorem j_X0_fellAs_36 {p : Program} {l : Launch} {e : Env} {R : Room} {s : State} {m : MethodId} {args : Array Value} {below : List Frame} {meth : Method} {c : Code} {w : WK} (C : CX p R s m args meth c w RX0 cX0_fellAs 3 (some .boolean) 0 0) (h : TT) {o0 : Nat} {o1 n1 : Nat} (ho0 : IsB o0) (ho1 : SI w o1 n1) {k13 : Int32 → Option Int32} (hk13 : ∀ (x2 : Int32) , GO p l e R s m args below meth c w 3 (fI h) (k13 x2) 13 [(0, .ref (w.2.1 (o0))), (1, .ref (w.2.1 (o1))), (2, .int x2)] [] h) (x2 : Int32) (xs0 : Int32)  : GO p l e R s m args below meth c w 3 (fI h) (f_X0_fellAs_36 h o0 o1 n1 k13 x2 xs0) 36 [(0, .ref (w.2.1 (o0))), (1, .ref (w.2.1 (o1))), (2, .int x2)] [.int xs0] h := by
  unfold f_X0_fellAs_36
  refine g_aload_n (pc := 36) C 1 rfl dX0_fellAs_36 rfl ?_
  refine g_iload_n (pc := 37) C 2 rfl dX0_fellAs_37 rfl ?_
  refine g_iald (pc := 38) C ho1 dX0_fellAs_38 (fun hb5 => ?_)
  refine g_iconst (pc := 39) (v := 1) C dX0_fellAs_39 kc_1 ?_
  refine g_icmp_ne (pc := 40) (tgt := 47) C dX0_fellAs_40 (by decide) (fun hc6 => ?_) (fun hc6 => ?_)
  · refine g_iconst (pc := 43) (v := 1) C dX0_fellAs_43 kc_1 ?_
    refine g_goto (pc := 44) (tgt := 48) C dX0_fellAs_44 (by decide) ?_
    exact j_X0_fellAs_48 C h ho0 ho1 hk13 x2 (1 : Int32) xs0
  · refine g_iconst (pc := 47) (v := 0) C dX0_fellAs_47 kc_0 ?_
    exact j_X0_fellAs_48 C h ho0 ho1 hk13 x2 (0 : Int32) xs0
def f_X0_fellAs_13 (h : TT) (o0 : Nat) (o1 n1 : Nat)  : Nat → Int32 → Option Int32
  | 0, _ => none
  | n + 1, x2 => (if (h.1 o0 4) ≤ x2 then some (1 : Int32) else if inb x2 60 = true then (if (h.1 (o0 + 7) x2.toNatClampNeg) = (2 : Int32) then f_X0_fellAs_36 h o0 o1 n1 (f_X0_fellAs_13 h o0 o1 n1 n) x2 (1 : Int32) else f_X0_fellAs_36 h o0 o1 n1 (f_X0_fellAs_13 h o0 o1 n1 n) x2 (0 : Int32)) else none)
set_option maxRecDepth 20000 in
theorem j_X0_fellAs_13 {p : Program} {l : Launch} {e : Env} {R : Room} {s : State} {m : MethodId} {args : Array Value} {below : List Frame} {meth : Method} {c : Code} {w : WK} (C : CX p R s m args meth c w RX0 cX0_fellAs 3 (some .boolean) 0 0) (h : TT) {o0 : Nat} {o1 n1 : Nat} (ho0 : IsB o0) (ho1 : SI w o1 n1)  : ∀ (n : Nat) (x2 : Int32), GO p l e R s m args below meth c w 3 (fI h) (f_X0_fellAs_13 h o0 o1 n1 n x2) 13 [(0, .ref (w.2.1 (o0))), (1, .ref (w.2.1 (o1))), (2, .int x2)] [] h := by
  intro n
  induction n with
  | zero =>
    intro x2
    exact g_none
  | succ n ih =>
    intro x2
    rw [f_X0_fellAs_13]
    refine g_iload_n (pc := 13) C 2 rfl dX0_fellAs_13 rfl ?_
    refine g_aload_n (pc := 14) C 0 rfl dX0_fellAs_14 rfl ?_
    refine g_get (pc := 15) C (so_RX0 ho0) 4 fl_RX0_80 (v := .int (h.1 o0 4)) rfl dX0_fellAs_15 ?_
    refine g_icmp_ge (pc := 18) (tgt := 59) C dX0_fellAs_18 (by decide) (fun hc2 => ?_) (fun hc2 => ?_)
    · refine g_iconst (pc := 59) (v := 1) C dX0_fellAs_59 kc_1 ?_
      exact g_zret C dX0_fellAs_60 rfl
    · refine g_aload_n (pc := 21) C 0 rfl dX0_fellAs_21 rfl ?_
      refine g_get (pc := 22) C (so_RX0 ho0) 7 fl_RX0_29 (v := .ref (w.2.1 (o0 + 7))) rfl dX0_fellAs_22 ?_
      refine g_iload_n (pc := 25) C 2 rfl dX0_fellAs_25 rfl ?_
      refine g_iald (pc := 26) C (siB7 ho0) dX0_fellAs_26 (fun hb3 => ?_)
      refine g_iconst (pc := 27) (v := 2) C dX0_fellAs_27 kc_2 ?_
      refine g_icmp_ne (pc := 28) (tgt := 35) C dX0_fellAs_28 (by decide) (fun hc4 => ?_) (fun hc4 => ?_)
      · refine g_iconst (pc := 31) (v := 1) C dX0_fellAs_31 kc_1 ?_
        refine g_goto (pc := 32) (tgt := 36) C dX0_fellAs_32 (by decide) ?_
        exact j_X0_fellAs_36 C h ho0 ho1 ih x2 (1 : Int32)
      · refine g_iconst (pc := 35) (v := 0) C dX0_fellAs_35 kc_0 ?_
        exact j_X0_fellAs_36 C h ho0 ho1 ih x2 (0 : Int32)
def f_X0_fellAs (h : TT) (o0 : Nat) (o1 n1 : Nat) : Option Int32 := (if (h.1 o0 4) ≤ (nI n1) then f_X0_fellAs_13 h o0 o1 n1 KF (0 : Int32) else some (0 : Int32))
set_option maxRecDepth 20000 in
theorem m_X0_fellAs {l : Launch} {w : WK} {h : TT} {o0 : Nat} {o1 n1 : Nat} {x : Int32} (hx : f_X0_fellAs h o0 o1 n1 = some x) (ho0 : IsB o0) (ho1 : SI w o1 n1) : Met l yX0_fellAs (Cond.code yX0_fellAs cX0_fellAs 3 (some .boolean) :: wsG) { frames := 0, cells := 0, slots := 0, locals := 0 } (PG w [.ref (w.2.1 (o0)), .ref (w.2.1 (o1))] h) (QG w ((fI h) x)) 0 0 (AA w) := by
  refine m_entry (own := RX0) (f := (fI h)) hx (by decide) rfl (Nat.le_of_ble_eq_true rfl) (fun p e s m args below meth c C => ?_)
  show GO p l e _ s m args below meth c w 3 (fI h) (f_X0_fellAs h o0 o1 n1) 0 [(0, .ref (w.2.1 (o0))), (1, .ref (w.2.1 (o1)))] [] h
  unfold f_X0_fellAs
  refine g_aload_n (pc := 0) C 0 rfl dX0_fellAs_0 rfl ?_
  refine g_get (pc := 1) C (so_RX0 ho0) 4 fl_RX0_80 (v := .int (h.1 o0 4)) rfl dX0_fellAs_1 ?_
  refine g_aload_n (pc := 4) C 1 rfl dX0_fellAs_4 rfl ?_
  refine g_ialen (pc := 5) C ho1 dX0_fellAs_5 ?_
  refine g_icmp_le (pc := 6) (tgt := 11) C dX0_fellAs_6 (by decide) (fun hc1 => ?_) (fun hc1 => ?_)
  · refine g_iconst (pc := 11) (v := 0) C dX0_fellAs_11 kc_0 ?_
    refine g_istore_n (pc := 12) C dX0_fellAs_12 rfl (by decide) (lv' := [(2, .int (0 : Int32)), (0, .ref (w.2.1 (o0))), (1, .ref (w.2.1 (o1)))]) rfl ?_
    refine g_lv (lv' := [(0, .ref (w.2.1 (o0))), (1, .ref (w.2.1 (o1))), (2, .int (0 : Int32))]) [1, 2, 0] rfl ?_
    exact j_X0_fellAs_13 C h ho0 ho1 KF (0 : Int32)
  · refine g_iconst (pc := 9) (v := 0) C dX0_fellAs_9 kc_0 ?_
    exact g_zret C dX0_fellAs_10 rfl
/-- SnowHouse.fell(I)I -/
def f_X7_fell_191   (x3 : Int32) (h : TT) : Option (Int32 × TT) := some (x3, h)
set_option maxRecDepth 20000 in
theorem j_X7_fell_191 {p : Program} {l : Launch} {e : Env} {R : Room} {s : State} {m : MethodId} {args : Array Value} {below : List Frame} {meth : Method} {c : Code} {w : WK} (C : CX p R s m args meth c w RX7 cX7_fell 6 (some .int) 5 119)     (x3 : Int32)  (h : TT) : GO p l e R s m args below meth c w 6 fIT (f_X7_fell_191 x3 h) 191 [(3, .int x3)] [] h := by
  unfold f_X7_fell_191
  refine g_iload_n (pc := 191) C 0 rfl dX7_fell_191 rfl ?_
  exact g_iretT C dX7_fell_192
def f_X7_fell_174  (k100 : Int32 → Int32 → Int32 → Int32 → Int32 → TT → Option (Int32 × TT)) (x1 : Int32) (x2 : Int32) (x3 : Int32) (x4 : Int32) (x5 : Int32) (h : TT) : Option (Int32 × TT) := k100 x1 x2 x3 x4 (x5 + (1 : Int32)) h
set_option maxRecDepth 20000 in
theorem j_X7_fell_174 {p : Program} {l : Launch} {e : Env} {R : Room} {s : State} {m : MethodId} {args : Array Value} {below : List Frame} {meth : Method} {c : Code} {w : WK} (C : CX p R s m args meth c w RX7 cX7_fell 6 (some .int) 5 119)    {k100 : Int32 → Int32 → Int32 → Int32 → Int32 → TT → Option (Int32 × TT)} (hk100 : ∀ (x1 : Int32) (x2 : Int32) (x3 : Int32) (x4 : Int32) (x5 : Int32)  (h : TT), GO p l e R s m args below meth c w 6 fIT (k100 x1 x2 x3 x4 x5 h) 100 [(0, .ref (w.2.1 (0))), (1, .int x1), (2, .int x2), (3, .int x3), (4, .int x4), (5, .int x5)] [] h) (x1 : Int32) (x2 : Int32) (x3 : Int32) (x4 : Int32) (x5 : Int32)  (h : TT) : GO p l e R s m args below meth c w 6 fIT (f_X7_fell_174 k100 x1 x2 x3 x4 x5 h) 174 [(0, .ref (w.2.1 (0))), (1, .int x1), (2, .int x2), (3, .int x3), (4, .int x4), (5, .int x5)] [] h := by
  unfold f_X7_fell_174
  refine g_iinc (pc := 174) C 5 rfl dX7_fell_174 (ki_1 _) (by decide) (lv' := [(5, .int (x5 + (1 : Int32))), (0, .ref (w.2.1 (0))), (1, .int x1), (2, .int x2), (3, .int x3), (4, .int x4)]) rfl ?_
  refine g_goto (pc := 177) (tgt := 100) C dX7_fell_177 (by decide) ?_
  refine g_lv (lv' := [(0, .ref (w.2.1 (0))), (1, .int x1), (2, .int x2), (3, .int x3), (4, .int x4), (5, .int (x5 + (1 : Int32)))]) [1, 2, 3, 4, 5, 0] rfl ?_
  exact hk100 x1 x2 x3 x4 (x5 + (1 : Int32)) h
def f_X7_fell_171  (k100 : Int32 → Int32 → Int32 → Int32 → Int32 → TT → Option (Int32 × TT)) (x1 : Int32) (x2 : Int32) (x3 : Int32) (x4 : Int32) (x5 : Int32) (h : TT) : Option (Int32 × TT) := f_X7_fell_174 k100 x1 x2 x3 (x4 + (1 : Int32)) x5 h
set_option maxRecDepth 20000 in
theorem j_X7_fell_171 {p : Program} {l : Launch} {e : Env} {R : Room} {s : State} {m : MethodId} {args : Array Value} {below : List Frame} {meth : Method} {c : Code} {w : WK} (C : CX p R s m args meth c w RX7 cX7_fell 6 (some .int) 5 119)    {k100 : Int32 → Int32 → Int32 → Int32 → Int32 → TT → Option (Int32 × TT)} (hk100 : ∀ (x1 : Int32) (x2 : Int32) (x3 : Int32) (x4 : Int32) (x5 : Int32)  (h : TT), GO p l e R s m args below meth c w 6 fIT (k100 x1 x2 x3 x4 x5 h) 100 [(0, .ref (w.2.1 (0))), (1, .int x1), (2, .int x2), (3, .int x3), (4, .int x4), (5, .int x5)] [] h) (x1 : Int32) (x2 : Int32) (x3 : Int32) (x4 : Int32) (x5 : Int32)  (h : TT) : GO p l e R s m args below meth c w 6 fIT (f_X7_fell_171 k100 x1 x2 x3 x4 x5 h) 171 [(0, .ref (w.2.1 (0))), (1, .int x1), (2, .int x2), (3, .int x3), (4, .int x4), (5, .int x5)] [] h := by
  unfold f_X7_fell_171
  refine g_iinc (pc := 171) C 4 rfl dX7_fell_171 (ki_1 _) (by decide) (lv' := [(4, .int (x4 + (1 : Int32))), (0, .ref (w.2.1 (0))), (1, .int x1), (2, .int x2), (3, .int x3), (5, .int x5)]) rfl ?_
  refine g_lv (lv' := [(0, .ref (w.2.1 (0))), (1, .int x1), (2, .int x2), (3, .int x3), (4, .int (x4 + (1 : Int32))), (5, .int x5)]) [1, 2, 3, 4, 0, 5] rfl ?_
  exact j_X7_fell_174 C hk100 x1 x2 x3 (x4 + (1 : Int32)) x5 h
def f_X7_fell_100   : Nat → Int32 → Int32 → Int32 → Int32 → Int32 → TT → Option (Int32 × TT)
  | 0, _, _, _, _, _, _ => none
  | n + 1, x1, x2, x3, x4, x5, h => (if (90 : Int32) < x5 then (if x4 ≤ 0 then f_X7_fell_191 x3 h else nm (wr h 0 13 x4) fun h13 => f_X7_fell_191 x3 h13) else (f_X3_slipFrom h (110 + 3) (41 + 3) x5).bind fun q14 => (if q14.1 = 0 then f_X7_fell_174 (f_X7_fell_100 n) x1 x2 x3 x4 x5 q14.2 else (f_X0_raise q14.2 110 x2).bind fun q16 => (if q16.1 = x2 then if inb x1 6 = true then (f_X0_fellAs q16.2 110 (2 + x1.toNatClampNeg) 60).bind fun r19 => (if r19 = 0 then f_X7_fell_174 (f_X7_fell_100 n) x1 x2 x3 x4 x5 q16.2 else (if x4 = 0 then f_X7_fell_171 (f_X7_fell_100 n) x1 x2 x5 x4 x5 q16.2 else f_X7_fell_171 (f_X7_fell_100 n) x1 x2 x3 x4 x5 q16.2)) else none else f_X7_fell_174 (f_X7_fell_100 n) x1 x2 x3 x4 x5 q16.2)))
set_option maxRecDepth 20000 in
theorem j_X7_fell_100 {p : Program} {l : Launch} {e : Env} {R : Room} {s : State} {m : MethodId} {args : Array Value} {below : List Frame} {meth : Method} {c : Code} {w : WK} (C : CX p R s m args meth c w RX7 cX7_fell 6 (some .int) 5 119)     : ∀ (n : Nat) (x1 : Int32) (x2 : Int32) (x3 : Int32) (x4 : Int32) (x5 : Int32) (h : TT), GO p l e R s m args below meth c w 6 fIT (f_X7_fell_100 n x1 x2 x3 x4 x5 h) 100 [(0, .ref (w.2.1 (0))), (1, .int x1), (2, .int x2), (3, .int x3), (4, .int x4), (5, .int x5)] [] h := by
  intro n
  induction n with
  | zero =>
    intro x1 x2 x3 x4 x5 h
    exact g_none
  | succ n ih =>
    intro x1 x2 x3 x4 x5 h
    rw [f_X7_fell_100]
    refine g_iload (pc := 100) C 5 rfl dX7_fell_100 ?_
    refine g_bipush (pc := 102) (v := 90) C dX7_fell_102 kb_90 ?_
    refine g_icmp_gt (pc := 104) (tgt := 180) C dX7_fell_104 (by decide) (fun hc11 => ?_) (fun hc11 => ?_)
    · refine g_iload (pc := 180) C 4 rfl dX7_fell_180 ?_
      refine g_if_le (pc := 182) (tgt := 191) C dX7_fell_182 (by decide) (fun hc12 => ?_) (fun hc12 => ?_)
      · refine g_lv (lv' := [(3, .int x3)]) [3] rfl ?_
        exact j_X7_fell_191 C x3 h
      · refine g_aload_n (pc := 185) C 0 rfl dX7_fell_185 rfl ?_
        refine g_iload (pc := 186) C 4 rfl dX7_fell_186 ?_
        refine g_putI (pc := 188) C so_RX7 13 fp_RX7_88 (se_RX7_13 _) rfl rfl (sl_RX7_13) dX7_fell_188 ?_
        refine g_nm (fun h13 => ?_)
        refine g_lv (lv' := [(3, .int x3)]) [3] rfl ?_
        exact j_X7_fell_191 C x3 h13
    · refine g_aload_n (pc := 107) C 0 rfl dX7_fell_107 rfl ?_
      refine g_get (pc := 108) C so_RX7 8 fl_RX7_57 (v := .ref (w.2.1 (110))) rfl dX7_fell_108 ?_
      refine g_get (pc := 111) C (so_RX0 isB110) 2 fl_RX7_185 (v := .ref (w.2.1 (110 + 3))) rfl dX7_fell_111 ?_
      refine g_aload_n (pc := 114) C 0 rfl dX7_fell_114 rfl ?_
      refine g_get (pc := 115) C so_RX7 6 fl_RX7_49 (v := .ref (w.2.1 (41))) rfl dX7_fell_115 ?_
      refine g_get (pc := 118) C (so_RX0 isB41) 2 fl_RX7_185 (v := .ref (w.2.1 (41 + 3))) rfl dX7_fell_118 ?_
      refine g_iload (pc := 121) C 5 rfl dX7_fell_121 ?_
      refine g_callIT (pc := 123) (rest := []) (g_runV C mv_RX7_258 (fun x1 hx1 => m_X3_slipFrom hx1 (isP_B isB110) (isP_B isB41)) (so_RX3 (isP_B isB110)) rfl (by decide) rfl rfl (Nat.le_of_ble_eq_true rfl) dX7_fell_123) (fun q14 => ?_)
      refine g_if_ne (pc := 126) (tgt := 132) C dX7_fell_126 (by decide) (fun hc15 => ?_) (fun hc15 => ?_)
      · refine g_goto (pc := 129) (tgt := 174) C dX7_fell_129 (by decide) ?_
        exact j_X7_fell_174 C ih x1 x2 x3 x4 x5 q14.2
      · refine g_aload_n (pc := 132) C 0 rfl dX7_fell_132 rfl ?_
        refine g_get (pc := 133) C so_RX7 8 fl_RX7_57 (v := .ref (w.2.1 (110))) rfl dX7_fell_133 ?_
        refine g_iload_n (pc := 136) C 2 rfl dX7_fell_136 rfl ?_
        refine g_callIT (pc := 137) (rest := []) (g_runV C mv_RX7_237 (fun x1 hx1 => m_X0_raise hx1 isB110) (so_RX0 isB110) rfl (by decide) rfl rfl (Nat.le_of_ble_eq_true rfl) dX7_fell_137) (fun q16 => ?_)
        refine g_iload_n (pc := 140) C 2 rfl dX7_fell_140 rfl ?_
        refine g_icmp_ne (pc := 141) (tgt := 174) C dX7_fell_141 (by decide) (fun hc17 => ?_) (fun hc17 => ?_)
        · refine g_aload_n (pc := 144) C 0 rfl dX7_fell_144 rfl ?_
          refine g_get (pc := 145) C so_RX7 8 fl_RX7_57 (v := .ref (w.2.1 (110))) rfl dX7_fell_145 ?_
          refine g_aload_n (pc := 148) C 0 rfl dX7_fell_148 rfl ?_
          refine g_get (pc := 149) C so_RX7 0 fl_RX7_11 (v := .ref (w.2.1 (1))) rfl dX7_fell_149 ?_
          refine g_iload_n (pc := 152) C 1 rfl dX7_fell_152 rfl ?_
          refine g_aald (pc := 153) (cA := 0) C sr_rows rfl rfl dX7_fell_153 (fun hb18 => ?_)
          refine g_callI (pc := 154) (rest := []) (g_runV C mv_RX7_262 (fun x1 hx1 => m_X0_fellAs hx1 isB110 (siRow hb18)) (so_RX0 isB110) rfl (by decide) rfl rfl (Nat.le_of_ble_eq_true rfl) dX7_fell_154) (fun r19 => ?_)
          refine g_if_ne (pc := 157) (tgt := 163) C dX7_fell_157 (by decide) (fun hc20 => ?_) (fun hc20 => ?_)
          · refine g_goto (pc := 160) (tgt := 174) C dX7_fell_160 (by decide) ?_
            exact j_X7_fell_174 C ih x1 x2 x3 x4 x5 q16.2
          · refine g_iload (pc := 163) C 4 rfl dX7_fell_163 ?_
            refine g_if_ne (pc := 165) (tgt := 171) C dX7_fell_165 (by decide) (fun hc21 => ?_) (fun hc21 => ?_)
            · refine g_iload (pc := 168) C 5 rfl dX7_fell_168 ?_
              refine g_istore_n (pc := 170) C dX7_fell_170 rfl (by decide) (lv' := [(3, .int x5), (0, .ref (w.2.1 (0))), (1, .int x1), (2, .int x2), (4, .int x4), (5, .int x5)]) rfl ?_
              refine g_lv (lv' := [(0, .ref (w.2.1 (0))), (1, .int x1), (2, .int x2), (3, .int x5), (4, .int x4), (5, .int x5)]) [1, 2, 3, 0, 4, 5] rfl ?_
              exact j_X7_fell_171 C ih x1 x2 x5 x4 x5 q16.2
            · exact j_X7_fell_171 C ih x1 x2 x3 x4 x5 q16.2
        · exact j_X7_fell_174 C ih x1 x2 x3 x4 x5 q16.2
def f_X7_fell (h : TT) (x1 : Int32) : Option (Int32 × TT) := (f_X7_isBelow h x1 (6 : Int32)).bind fun r1 => (if r1 = 0 then some ((-1 : Int32), h) else (if (h.1 41 0) = 0 then some ((-4 : Int32), h) else if inb x1 6 = true then (if 0 ≤ (h.1 8 x1.toNatClampNeg) then if inb x1 6 = true then (if (h.1 8 x1.toNatClampNeg) = (h.1 (41 + 3) 2) then (f_X7_onesOf h x1).bind fun r8 => (if 0 ≤ r8 then (f_X0_takeFrom h 110 41).bind fun h10 => f_X7_fell_100 KF x1 r8 (-9 : Int32) (0 : Int32) (0 : Int32) h10 else (f_X7_found h (3 : Int32)).bind fun q22 => some (q22.1, q22.2)) else (f_X7_found h (5 : Int32)).bind fun q23 => some (q23.1, q23.2)) else none else (f_X7_found h (1 : Int32)).bind fun q24 => some (q24.1, q24.2)) else none))
set_option maxRecDepth 20000 in
theorem m_X7_fell {l : Launch} {w : WK} {h : TT} {x1 : Int32} {x : (Int32 × TT)} (hx : f_X7_fell h x1 = some x)  : Met l yX7_fell (Cond.code yX7_fell cX7_fell 6 (some .int) :: wsG) { frames := 5, cells := 0, slots := 0, locals := 119 } (PG w [.ref (w.2.1 (0)), .int x1] h) (QG w (fIT x)) 0 0 (AA w) := by
  refine m_entry (own := RX7) (f := fIT) hx (by decide) rfl (Nat.le_of_ble_eq_true rfl) (fun p e s m args below meth c C => ?_)
  show GO p l e _ s m args below meth c w 6 fIT (f_X7_fell h x1) 0 [(0, .ref (w.2.1 (0))), (1, .int x1)] [] h
  unfold f_X7_fell
  refine g_iload_n (pc := 0) C 1 rfl dX7_fell_0 rfl ?_
  refine g_bipush (pc := 1) (v := 6) C dX7_fell_1 kb_6 ?_
  refine g_callI (pc := 3) (rest := []) (g_runS C ms_RX7_105 (fun x1 hx1 => m_X7_isBelow hx1) (by decide) rfl rfl (Nat.le_of_ble_eq_true rfl) dX7_fell_3) (fun r1 => ?_)
  refine g_if_ne (pc := 6) (tgt := 11) C dX7_fell_6 (by decide) (fun hc2 => ?_) (fun hc2 => ?_)
  · refine g_iconst (pc := 9) (v := -1) C dX7_fell_9 kc_m1 ?_
    exact g_iretT C dX7_fell_10
  · refine g_aload_n (pc := 11) C 0 rfl dX7_fell_11 rfl ?_
    refine g_get (pc := 12) C so_RX7 6 fl_RX7_49 (v := .ref (w.2.1 (41))) rfl dX7_fell_12 ?_
    refine g_get (pc := 15) C (so_RX0 isB41) 0 fl_RX7_189 (v := .int (h.1 41 0)) rfl dX7_fell_15 ?_
    refine g_if_ne (pc := 18) (tgt := 24) C dX7_fell_18 (by decide) (fun hc3 => ?_) (fun hc3 => ?_)
    · refine g_bipush (pc := 21) (v := -4) C dX7_fell_21 kb_m4 ?_
      exact g_iretT C dX7_fell_23
    · refine g_aload_n (pc := 24) C 0 rfl dX7_fell_24 rfl ?_
      refine g_get (pc := 25) C so_RX7 1 fl_RX7_14 (v := .ref (w.2.1 (8))) rfl dX7_fell_25 ?_
      refine g_iload_n (pc := 28) C 1 rfl dX7_fell_28 rfl ?_
      refine g_iald (pc := 29) C si_8 dX7_fell_29 (fun hb4 => ?_)
      refine g_if_ge (pc := 30) (tgt := 39) C dX7_fell_30 (by decide) (fun hc5 => ?_) (fun hc5 => ?_)
      · refine g_aload_n (pc := 39) C 0 rfl dX7_fell_39 rfl ?_
        refine g_get (pc := 40) C so_RX7 1 fl_RX7_14 (v := .ref (w.2.1 (8))) rfl dX7_fell_40 ?_
        refine g_iload_n (pc := 43) C 1 rfl dX7_fell_43 rfl ?_
        refine g_iald (pc := 44) C si_8 dX7_fell_44 (fun hb6 => ?_)
        refine g_aload_n (pc := 45) C 0 rfl dX7_fell_45 rfl ?_
        refine g_get (pc := 46) C so_RX7 6 fl_RX7_49 (v := .ref (w.2.1 (41))) rfl dX7_fell_46 ?_
        refine g_get (pc := 49) C (so_RX0 isB41) 2 fl_RX7_185 (v := .ref (w.2.1 (41 + 3))) rfl dX7_fell_49 ?_
        refine g_get (pc := 52) C (so_RX3 (isP_B isB41)) 2 fl_RX7_154 (v := .int (h.1 (41 + 3) 2)) rfl dX7_fell_52 ?_
        refine g_icmp_eq (pc := 55) (tgt := 64) C dX7_fell_55 (by decide) (fun hc7 => ?_) (fun hc7 => ?_)
        · refine g_aload_n (pc := 64) C 0 rfl dX7_fell_64 rfl ?_
          refine g_iload_n (pc := 65) C 1 rfl dX7_fell_65 rfl ?_
          refine g_callI (pc := 66) (rest := []) (g_runV C mv_RX7_255 (fun x1 hx1 => m_X7_onesOf hx1) so_RX7 rfl (by decide) rfl rfl (Nat.le_of_ble_eq_true rfl) dX7_fell_66) (fun r8 => ?_)
          refine g_istore_n (pc := 69) C dX7_fell_69 rfl (by decide) (lv' := [(2, .int r8), (0, .ref (w.2.1 (0))), (1, .int x1)]) rfl ?_
          refine g_iload_n (pc := 70) C 0 rfl dX7_fell_70 rfl ?_
          refine g_if_ge (pc := 71) (tgt := 80) C dX7_fell_71 (by decide) (fun hc9 => ?_) (fun hc9 => ?_)
          · refine g_aload_n (pc := 80) C 1 rfl dX7_fell_80 rfl ?_
            refine g_get (pc := 81) C so_RX7 8 fl_RX7_57 (v := .ref (w.2.1 (110))) rfl dX7_fell_81 ?_
            refine g_aload_n (pc := 84) C 1 rfl dX7_fell_84 rfl ?_
            refine g_get (pc := 85) C so_RX7 6 fl_RX7_49 (v := .ref (w.2.1 (41))) rfl dX7_fell_85 ?_
            refine g_callV (pc := 88) (rest := []) (g_runV C mv_RX7_230 (fun x1 hx1 => m_X0_takeFrom hx1 isB110 isB41) (so_RX0 isB110) rfl (by decide) rfl rfl (Nat.le_of_ble_eq_true rfl) dX7_fell_88) (fun h10 => ?_)
            refine g_bipush (pc := 91) (v := -9) C dX7_fell_91 kb_m9 ?_
            refine g_istore_n (pc := 93) C dX7_fell_93 rfl (by decide) (lv' := [(3, .int (-9 : Int32)), (2, .int r8), (0, .ref (w.2.1 (0))), (1, .int x1)]) rfl ?_
            refine g_iconst (pc := 94) (v := 0) C dX7_fell_94 kc_0 ?_
            refine g_istore (pc := 95) C dX7_fell_95 (by decide) (lv' := [(4, .int (0 : Int32)), (3, .int (-9 : Int32)), (2, .int r8), (0, .ref (w.2.1 (0))), (1, .int x1)]) rfl ?_
            refine g_iconst (pc := 97) (v := 0) C dX7_fell_97 kc_0 ?_
            refine g_istore (pc := 98) C dX7_fell_98 (by decide) (lv' := [(5, .int (0 : Int32)), (4, .int (0 : Int32)), (3, .int (-9 : Int32)), (2, .int r8), (0, .ref (w.2.1 (0))), (1, .int x1)]) rfl ?_
            refine g_lv (lv' := [(0, .ref (w.2.1 (0))), (1, .int x1), (2, .int r8), (3, .int (-9 : Int32)), (4, .int (0 : Int32)), (5, .int (0 : Int32))]) [4, 5, 3, 2, 1, 0] rfl ?_
            exact j_X7_fell_100 C KF x1 r8 (-9 : Int32) (0 : Int32) (0 : Int32) h10
          · refine g_aload_n (pc := 74) C 1 rfl dX7_fell_74 rfl ?_
            refine g_iconst (pc := 75) (v := 3) C dX7_fell_75 kc_3 ?_
            refine g_callIT (pc := 76) (rest := []) (g_runV C mv_RX7_109 (fun x1 hx1 => m_X7_found hx1) so_RX7 rfl (by decide) rfl rfl (Nat.le_of_ble_eq_true rfl) dX7_fell_76) (fun q22 => ?_)
            exact g_iretT C dX7_fell_79
        · refine g_aload_n (pc := 58) C 0 rfl dX7_fell_58 rfl ?_
          refine g_iconst (pc := 59) (v := 5) C dX7_fell_59 kc_5 ?_
          refine g_callIT (pc := 60) (rest := []) (g_runV C mv_RX7_109 (fun x1 hx1 => m_X7_found hx1) so_RX7 rfl (by decide) rfl rfl (Nat.le_of_ble_eq_true rfl) dX7_fell_60) (fun q23 => ?_)
          exact g_iretT C dX7_fell_63
      · refine g_aload_n (pc := 33) C 0 rfl dX7_fell_33 rfl ?_
        refine g_iconst (pc := 34) (v := 1) C dX7_fell_34 kc_1 ?_
        refine g_callIT (pc := 35) (rest := []) (g_runV C mv_RX7_109 (fun x1 hx1 => m_X7_found hx1) so_RX7 rfl (by decide) rfl rfl (Nat.le_of_ble_eq_true rfl) dX7_fell_35) (fun q24 => ?_)
        exact g_iretT C dX7_fell_38
/-- SnowHouse.tellPart(II)V -/
def f_X7_tellPart_51   (x1 : Int32) (x2 : Int32) (x3 : Int64) (h : TT) : Option TT := if x3 = 0 then none else nm (wrl h 0 14 (x1.toInt64 / x3)) fun h6 => if x3 = 0 then none else nm (wrl h6 0 15 (x2.toInt64 / x3)) fun h8 => some h8
set_option maxRecDepth 20000 in
theorem j_X7_tellPart_51 {p : Program} {l : Launch} {e : Env} {R : Room} {s : State} {m : MethodId} {args : Array Value} {below : List Frame} {meth : Method} {c : Code} {w : WK} (C : CX p R s m args meth c w RX7 cX7_tellPart 10 none 0 0)     (x1 : Int32) (x2 : Int32) (x3 : Int64)  (h : TT) : GO p l e R s m args below meth c w 10 fV (f_X7_tellPart_51 x1 x2 x3 h) 51 [(0, .ref (w.2.1 (0))), (1, .int x1), (2, .int x2), (3, .long x3)] [] h := by
  unfold f_X7_tellPart_51
  refine g_aload_n (pc := 51) C 0 rfl dX7_tellPart_51 rfl ?_
  refine g_iload_n (pc := 52) C 1 rfl dX7_tellPart_52 rfl ?_
  refine g_i2l (pc := 53) C dX7_tellPart_53 ?_
  refine g_lload_n (pc := 54) C 3 rfl dX7_tellPart_54 rfl ?_
  refine g_guardp (fun hz5 => ?_)
  refine g_ldiv (pc := 55) C dX7_tellPart_55 hz5 ?_
  refine g_putJ (pc := 56) C so_RX7 14 fp_RX7_92 (se_RX7_14 _) rfl rfl (sl_RX7_14) dX7_tellPart_56 ?_
  refine g_nm (fun h6 => ?_)
  refine g_aload_n (pc := 59) C 0 rfl dX7_tellPart_59 rfl ?_
  refine g_iload_n (pc := 60) C 2 rfl dX7_tellPart_60 rfl ?_
  refine g_i2l (pc := 61) C dX7_tellPart_61 ?_
  refine g_lload_n (pc := 62) C 3 rfl dX7_tellPart_62 rfl ?_
  refine g_guardp (fun hz7 => ?_)
  refine g_ldiv (pc := 63) C dX7_tellPart_63 hz7 ?_
  refine g_putJ (pc := 64) C so_RX7 15 fp_RX7_96 (se_RX7_15 _) rfl rfl (sl_RX7_15) dX7_tellPart_64 ?_
  refine g_nm (fun h8 => ?_)
  exact g_vret C dX7_tellPart_67
def f_X7_tellPart_43   (x1 : Int32) (x2 : Int32) (x3 : Int64) (h : TT) : Option TT := (if 0 < (lg_cmp x3 (0 : Int64)) then f_X7_tellPart_51 x1 x2 x3 h else f_X7_tellPart_51 x1 x2 (1 : Int64) h)
set_option maxRecDepth 20000 in
theorem j_X7_tellPart_43 {p : Program} {l : Launch} {e : Env} {R : Room} {s : State} {m : MethodId} {args : Array Value} {below : List Frame} {meth : Method} {c : Code} {w : WK} (C : CX p R s m args meth c w RX7 cX7_tellPart 10 none 0 0)     (x1 : Int32) (x2 : Int32) (x3 : Int64)  (h : TT) : GO p l e R s m args below meth c w 10 fV (f_X7_tellPart_43 x1 x2 x3 h) 43 [(0, .ref (w.2.1 (0))), (1, .int x1), (2, .int x2), (3, .long x3)] [] h := by
  unfold f_X7_tellPart_43
  refine g_lload_n (pc := 43) C 3 rfl dX7_tellPart_43 rfl ?_
  refine g_lconst (pc := 44) (v := 0) C dX7_tellPart_44 (by decide) ?_
  refine g_lcmp (pc := 45) C dX7_tellPart_45 ?_
  refine g_if_gt (pc := 46) (tgt := 51) C dX7_tellPart_46 (by decide) (fun hc4 => ?_) (fun hc4 => ?_)
  · exact j_X7_tellPart_51 C x1 x2 x3 h
  · refine g_lconst (pc := 49) (v := 1) C dX7_tellPart_49 (by decide) ?_
    refine g_lstore_n (pc := 50) C dX7_tellPart_50 rfl (by decide) (lv' := [(3, .long (1 : Int64)), (0, .ref (w.2.1 (0))), (1, .int x1), (2, .int x2)]) rfl ?_
    refine g_lv (lv' := [(0, .ref (w.2.1 (0))), (1, .int x1), (2, .int x2), (3, .long (1 : Int64))]) [1, 2, 3, 0] rfl ?_
    exact j_X7_tellPart_51 C x1 x2 (1 : Int64) h
def f_X7_tellPart_10   : Nat → Int32 → Int32 → Int64 → Int64 → Int32 → TT → Option TT
  | 0, _, _, _, _, _, _ => none
  | n + 1, x1, x2, x3, x5, x7, h => (if (64 : Int32) ≤ x7 then f_X7_tellPart_43 x1 x2 x3 h else (if (lg_cmp x5 (0 : Int64)) = 0 then f_X7_tellPart_43 x1 x2 x3 h else if x5 = 0 then none else nm (x3 - x3 / x5 * x5) fun y11 => f_X7_tellPart_10 n x1 x2 x5 y11 (x7 + (1 : Int32)) h))
set_option maxRecDepth 20000 in
theorem j_X7_tellPart_10 {p : Program} {l : Launch} {e : Env} {R : Room} {s : State} {m : MethodId} {args : Array Value} {below : List Frame} {meth : Method} {c : Code} {w : WK} (C : CX p R s m args meth c w RX7 cX7_tellPart 10 none 0 0)     : ∀ (n : Nat) (x1 : Int32) (x2 : Int32) (x3 : Int64) (x5 : Int64) (x7 : Int32) (h : TT), GO p l e R s m args below meth c w 10 fV (f_X7_tellPart_10 n x1 x2 x3 x5 x7 h) 10 [(0, .ref (w.2.1 (0))), (1, .int x1), (2, .int x2), (3, .long x3), (5, .long x5), (7, .int x7)] [] h := by
  intro n
  induction n with
  | zero =>
    intro x1 x2 x3 x5 x7 h
    exact g_none
  | succ n ih =>
    intro x1 x2 x3 x5 x7 h
    rw [f_X7_tellPart_10]
    refine g_iload (pc := 10) C 5 rfl dX7_tellPart_10 ?_
    refine g_bipush (pc := 12) (v := 64) C dX7_tellPart_12 kb_64 ?_
    refine g_icmp_ge (pc := 14) (tgt := 43) C dX7_tellPart_14 (by decide) (fun hc3 => ?_) (fun hc3 => ?_)
    · refine g_lv (lv' := [(0, .ref (w.2.1 (0))), (1, .int x1), (2, .int x2), (3, .long x3)]) [0, 1, 2, 3] rfl ?_
      exact j_X7_tellPart_43 C x1 x2 x3 h
    · refine g_lload (pc := 17) C 4 rfl dX7_tellPart_17 ?_
      refine g_lconst (pc := 19) (v := 0) C dX7_tellPart_19 (by decide) ?_
      refine g_lcmp (pc := 20) C dX7_tellPart_20 ?_
      refine g_if_eq (pc := 21) (tgt := 43) C dX7_tellPart_21 (by decide) (fun hc9 => ?_) (fun hc9 => ?_)
      · refine g_lv (lv' := [(0, .ref (w.2.1 (0))), (1, .int x1), (2, .int x2), (3, .long x3)]) [0, 1, 2, 3] rfl ?_
        exact j_X7_tellPart_43 C x1 x2 x3 h
      · refine g_lload_n (pc := 24) C 3 rfl dX7_tellPart_24 rfl ?_
        refine g_lload (pc := 25) C 4 rfl dX7_tellPart_25 ?_
        refine g_guardp (fun hz10 => ?_)
        refine g_lrem (pc := 27) C dX7_tellPart_27 hz10 ?_
        refine g_nmj (fun y11 => ?_)
        refine g_lstore (pc := 28) C dX7_tellPart_28 (by decide) (lv' := [(8, .long y11), (0, .ref (w.2.1 (0))), (1, .int x1), (2, .int x2), (3, .long x3), (5, .long x5), (7, .int x7)]) rfl ?_
        refine g_lload (pc := 30) C 5 rfl dX7_tellPart_30 ?_
        refine g_lstore_n (pc := 32) C dX7_tellPart_32 rfl (by decide) (lv' := [(3, .long x5), (8, .long y11), (0, .ref (w.2.1 (0))), (1, .int x1), (2, .int x2), (5, .long x5), (7, .int x7)]) rfl ?_
        refine g_lload (pc := 33) C 1 rfl dX7_tellPart_33 ?_
        refine g_lstore (pc := 35) C dX7_tellPart_35 (by decide) (lv' := [(5, .long y11), (3, .long x5), (8, .long y11), (0, .ref (w.2.1 (0))), (1, .int x1), (2, .int x2), (7, .int x7)]) rfl ?_
        refine g_iinc (pc := 37) C 6 rfl dX7_tellPart_37 (ki_1 _) (by decide) (lv' := [(7, .int (x7 + (1 : Int32))), (5, .long y11), (3, .long x5), (8, .long y11), (0, .ref (w.2.1 (0))), (1, .int x1), (2, .int x2)]) rfl ?_
        refine g_goto (pc := 40) (tgt := 10) C dX7_tellPart_40 (by decide) ?_
        refine g_lv (lv' := [(0, .ref (w.2.1 (0))), (1, .int x1), (2, .int x2), (3, .long x5), (5, .long y11), (7, .int (x7 + (1 : Int32)))]) [4, 5, 6, 2, 1, 0] rfl ?_
        exact ih x1 x2 x5 y11 (x7 + (1 : Int32)) h
def f_X7_tellPart (h : TT) (x1 : Int32) (x2 : Int32) : Option TT := nm (x1.toInt64) fun y1 => nm (x2.toInt64) fun y2 => f_X7_tellPart_10 KF x1 x2 y1 y2 (0 : Int32) h
set_option maxRecDepth 20000 in
theorem m_X7_tellPart {l : Launch} {w : WK} {h : TT} {x1 : Int32} {x2 : Int32} {x : TT} (hx : f_X7_tellPart h x1 x2 = some x)  : Met l yX7_tellPart (Cond.code yX7_tellPart cX7_tellPart 10 none :: wsG) { frames := 0, cells := 0, slots := 0, locals := 0 } (PG w [.ref (w.2.1 (0)), .int x1, .int x2] h) (QG w (fV x)) 0 0 (AA w) := by
  refine m_entry (own := RX7) (f := fV) hx (by decide) rfl (Nat.le_of_ble_eq_true rfl) (fun p e s m args below meth c C => ?_)
  show GO p l e _ s m args below meth c w 10 fV (f_X7_tellPart h x1 x2) 0 [(0, .ref (w.2.1 (0))), (1, .int x1), (2, .int x2)] [] h
  unfold f_X7_tellPart
  refine g_iload_n (pc := 0) C 1 rfl dX7_tellPart_0 rfl ?_
  refine g_i2l (pc := 1) C dX7_tellPart_1 ?_
  refine g_nmj (fun y1 => ?_)
  refine g_lstore_n (pc := 2) C dX7_tellPart_2 rfl (by decide) (lv' := [(3, .long y1), (0, .ref (w.2.1 (0))), (1, .int x1), (2, .int x2)]) rfl ?_
  refine g_iload_n (pc := 3) C 3 rfl dX7_tellPart_3 rfl ?_
  refine g_i2l (pc := 4) C dX7_tellPart_4 ?_
  refine g_nmj (fun y2 => ?_)
  refine g_lstore (pc := 5) C dX7_tellPart_5 (by decide) (lv' := [(5, .long y2), (3, .long y1), (0, .ref (w.2.1 (0))), (1, .int x1), (2, .int x2)]) rfl ?_
  refine g_iconst (pc := 7) (v := 0) C dX7_tellPart_7 kc_0 ?_
  refine g_istore (pc := 8) C dX7_tellPart_8 (by decide) (lv' := [(7, .int (0 : Int32)), (5, .long y2), (3, .long y1), (0, .ref (w.2.1 (0))), (1, .int x1), (2, .int x2)]) rfl ?_
  refine g_lv (lv' := [(0, .ref (w.2.1 (0))), (1, .int x1), (2, .int x2), (3, .long y1), (5, .long y2), (7, .int (0 : Int32))]) [3, 4, 5, 2, 1, 0] rfl ?_
  exact j_X7_tellPart_10 C KF x1 x2 y1 y2 (0 : Int32) h
/-- SnowHouse.odds()I -/
def f_X7_odds_77  (k30 : Int32 → Int32 → Int32 → TT → Option (Int32 × TT)) (x1 : Int32) (x2 : Int32) (x3 : Int32) (h : TT) : Option (Int32 × TT) := k30 x1 x2 (x3 + (1 : Int32)) h
set_option maxRecDepth 20000 in
theorem j_X7_odds_77 {p : Program} {l : Launch} {e : Env} {R : Room} {s : State} {m : MethodId} {args : Array Value} {below : List Frame} {meth : Method} {c : Code} {w : WK} (C : CX p R s m args meth c w RX7 cX7_odds 4 (some .int) 5 119)    {k30 : Int32 → Int32 → Int32 → TT → Option (Int32 × TT)} (hk30 : ∀ (x1 : Int32) (x2 : Int32) (x3 : Int32)  (h : TT), GO p l e R s m args below meth c w 4 fIT (k30 x1 x2 x3 h) 30 [(0, .ref (w.2.1 (0))), (1, .int x1), (2, .int x2), (3, .int x3)] [] h) (x1 : Int32) (x2 : Int32) (x3 : Int32)  (h : TT) : GO p l e R s m args below meth c w 4 fIT (f_X7_odds_77 k30 x1 x2 x3 h) 77 [(0, .ref (w.2.1 (0))), (1, .int x1), (2, .int x2), (3, .int x3)] [] h := by
  unfold f_X7_odds_77
  refine g_iinc (pc := 77) C 3 rfl dX7_odds_77 (ki_1 _) (by decide) (lv' := [(3, .int (x3 + (1 : Int32))), (0, .ref (w.2.1 (0))), (1, .int x1), (2, .int x2)]) rfl ?_
  refine g_goto (pc := 80) (tgt := 30) C dX7_odds_80 (by decide) ?_
  refine g_lv (lv' := [(0, .ref (w.2.1 (0))), (1, .int x1), (2, .int x2), (3, .int (x3 + (1 : Int32)))]) [1, 2, 3, 0] rfl ?_
  exact hk30 x1 x2 (x3 + (1 : Int32)) h
def f_X7_odds_30   : Nat → Int32 → Int32 → Int32 → TT → Option (Int32 × TT)
  | 0, _, _, _, _ => none
  | n + 1, x1, x2, x3, h => (if (90 : Int32) < x3 then (f_X7_tellPart h x2 x1).bind fun h4 => some (x1, h4) else (f_X3_slipFrom h (110 + 3) (41 + 3) x3).bind fun q5 => (if q5.1 = 0 then f_X7_odds_77 (f_X7_odds_30 n) x1 x2 x3 q5.2 else (f_X0_raise q5.2 110 (0 : Int32)).bind fun q7 => (if q7.1 = 0 then f_X7_odds_77 (f_X7_odds_30 n) (x1 + (1 : Int32)) (x2 + (1 : Int32)) x3 q7.2 else f_X7_odds_77 (f_X7_odds_30 n) (x1 + (1 : Int32)) x2 x3 q7.2)))
set_option maxRecDepth 20000 in
theorem j_X7_odds_30 {p : Program} {l : Launch} {e : Env} {R : Room} {s : State} {m : MethodId} {args : Array Value} {below : List Frame} {meth : Method} {c : Code} {w : WK} (C : CX p R s m args meth c w RX7 cX7_odds 4 (some .int) 5 119)     : ∀ (n : Nat) (x1 : Int32) (x2 : Int32) (x3 : Int32) (h : TT), GO p l e R s m args below meth c w 4 fIT (f_X7_odds_30 n x1 x2 x3 h) 30 [(0, .ref (w.2.1 (0))), (1, .int x1), (2, .int x2), (3, .int x3)] [] h := by
  intro n
  induction n with
  | zero =>
    intro x1 x2 x3 h
    exact g_none
  | succ n ih =>
    intro x1 x2 x3 h
    rw [f_X7_odds_30]
    refine g_iload_n (pc := 30) C 3 rfl dX7_odds_30 rfl ?_
    refine g_bipush (pc := 31) (v := 90) C dX7_odds_31 kb_90 ?_
    refine g_icmp_gt (pc := 33) (tgt := 83) C dX7_odds_33 (by decide) (fun hc3 => ?_) (fun hc3 => ?_)
    · refine g_aload_n (pc := 83) C 0 rfl dX7_odds_83 rfl ?_
      refine g_iload_n (pc := 84) C 2 rfl dX7_odds_84 rfl ?_
      refine g_iload_n (pc := 85) C 1 rfl dX7_odds_85 rfl ?_
      refine g_callV (pc := 86) (rest := []) (g_runV C mv_RX7_266 (fun x1 hx1 => m_X7_tellPart hx1) so_RX7 rfl (by decide) rfl rfl (Nat.le_of_ble_eq_true rfl) dX7_odds_86) (fun h4 => ?_)
      refine g_iload_n (pc := 89) C 1 rfl dX7_odds_89 rfl ?_
      exact g_iretT C dX7_odds_90
    · refine g_aload_n (pc := 36) C 0 rfl dX7_odds_36 rfl ?_
      refine g_get (pc := 37) C so_RX7 8 fl_RX7_57 (v := .ref (w.2.1 (110))) rfl dX7_odds_37 ?_
      refine g_get (pc := 40) C (so_RX0 isB110) 2 fl_RX7_185 (v := .ref (w.2.1 (110 + 3))) rfl dX7_odds_40 ?_
      refine g_aload_n (pc := 43) C 0 rfl dX7_odds_43 rfl ?_
      refine g_get (pc := 44) C so_RX7 6 fl_RX7_49 (v := .ref (w.2.1 (41))) rfl dX7_odds_44 ?_
      refine g_get (pc := 47) C (so_RX0 isB41) 2 fl_RX7_185 (v := .ref (w.2.1 (41 + 3))) rfl dX7_odds_47 ?_
      refine g_iload_n (pc := 50) C 3 rfl dX7_odds_50 rfl ?_
      refine g_callIT (pc := 51) (rest := []) (g_runV C mv_RX7_258 (fun x1 hx1 => m_X3_slipFrom hx1 (isP_B isB110) (isP_B isB41)) (so_RX3 (isP_B isB110)) rfl (by decide) rfl rfl (Nat.le_of_ble_eq_true rfl) dX7_odds_51) (fun q5 => ?_)
      refine g_if_ne (pc := 54) (tgt := 60) C dX7_odds_54 (by decide) (fun hc6 => ?_) (fun hc6 => ?_)
      · refine g_goto (pc := 57) (tgt := 77) C dX7_odds_57 (by decide) ?_
        exact j_X7_odds_77 C ih x1 x2 x3 q5.2
      · refine g_iinc (pc := 60) C 1 rfl dX7_odds_60 (ki_1 _) (by decide) (lv' := [(1, .int (x1 + (1 : Int32))), (0, .ref (w.2.1 (0))), (2, .int x2), (3, .int x3)]) rfl ?_
        refine g_aload_n (pc := 63) C 1 rfl dX7_odds_63 rfl ?_
        refine g_get (pc := 64) C so_RX7 8 fl_RX7_57 (v := .ref (w.2.1 (110))) rfl dX7_odds_64 ?_
        refine g_iconst (pc := 67) (v := 0) C dX7_odds_67 kc_0 ?_
        refine g_callIT (pc := 68) (rest := []) (g_runV C mv_RX7_237 (fun x1 hx1 => m_X0_raise hx1 isB110) (so_RX0 isB110) rfl (by decide) rfl rfl (Nat.le_of_ble_eq_true rfl) dX7_odds_68) (fun q7 => ?_)
        refine g_if_ne (pc := 71) (tgt := 77) C dX7_odds_71 (by decide) (fun hc8 => ?_) (fun hc8 => ?_)
        · refine g_iinc (pc := 74) C 2 rfl dX7_odds_74 (ki_1 _) (by decide) (lv' := [(2, .int (x2 + (1 : Int32))), (1, .int (x1 + (1 : Int32))), (0, .ref (w.2.1 (0))), (3, .int x3)]) rfl ?_
          refine g_lv (lv' := [(0, .ref (w.2.1 (0))), (1, .int (x1 + (1 : Int32))), (2, .int (x2 + (1 : Int32))), (3, .int x3)]) [2, 1, 0, 3] rfl ?_
          exact j_X7_odds_77 C ih (x1 + (1 : Int32)) (x2 + (1 : Int32)) x3 q7.2
        · refine g_lv (lv' := [(0, .ref (w.2.1 (0))), (1, .int (x1 + (1 : Int32))), (2, .int x2), (3, .int x3)]) [1, 0, 2, 3] rfl ?_
          exact j_X7_odds_77 C ih (x1 + (1 : Int32)) x2 x3 q7.2
def f_X7_odds (h : TT)  : Option (Int32 × TT) := (if (h.1 41 0) = 0 then some ((-4 : Int32), h) else (f_X0_takeFrom h 110 41).bind fun h2 => f_X7_odds_30 KF (0 : Int32) (0 : Int32) (0 : Int32) h2)
set_option maxRecDepth 20000 in
theorem m_X7_odds {l : Launch} {w : WK} {h : TT}  {x : (Int32 × TT)} (hx : f_X7_odds h  = some x)  : Met l yX7_odds (Cond.code yX7_odds cX7_odds 4 (some .int) :: wsG) { frames := 5, cells := 0, slots := 0, locals := 119 } (PG w [.ref (w.2.1 (0))] h) (QG w (fIT x)) 0 0 (AA w) := by
  refine m_entry (own := RX7) (f := fIT) hx (by decide) rfl (Nat.le_of_ble_eq_true rfl) (fun p e s m args below meth c C => ?_)
  show GO p l e _ s m args below meth c w 4 fIT (f_X7_odds h ) 0 [(0, .ref (w.2.1 (0)))] [] h
  unfold f_X7_odds
  refine g_aload_n (pc := 0) C 0 rfl dX7_odds_0 rfl ?_
  refine g_get (pc := 1) C so_RX7 6 fl_RX7_49 (v := .ref (w.2.1 (41))) rfl dX7_odds_1 ?_
  refine g_get (pc := 4) C (so_RX0 isB41) 0 fl_RX7_189 (v := .int (h.1 41 0)) rfl dX7_odds_4 ?_
  refine g_if_ne (pc := 7) (tgt := 13) C dX7_odds_7 (by decide) (fun hc1 => ?_) (fun hc1 => ?_)
  · refine g_bipush (pc := 10) (v := -4) C dX7_odds_10 kb_m4 ?_
    exact g_iretT C dX7_odds_12
  · refine g_aload_n (pc := 13) C 0 rfl dX7_odds_13 rfl ?_
    refine g_get (pc := 14) C so_RX7 8 fl_RX7_57 (v := .ref (w.2.1 (110))) rfl dX7_odds_14 ?_
    refine g_aload_n (pc := 17) C 0 rfl dX7_odds_17 rfl ?_
    refine g_get (pc := 18) C so_RX7 6 fl_RX7_49 (v := .ref (w.2.1 (41))) rfl dX7_odds_18 ?_
    refine g_callV (pc := 21) (rest := []) (g_runV C mv_RX7_230 (fun x1 hx1 => m_X0_takeFrom hx1 isB110 isB41) (so_RX0 isB110) rfl (by decide) rfl rfl (Nat.le_of_ble_eq_true rfl) dX7_odds_21) (fun h2 => ?_)
    refine g_iconst (pc := 24) (v := 0) C dX7_odds_24 kc_0 ?_
    refine g_istore_n (pc := 25) C dX7_odds_25 rfl (by decide) (lv' := [(1, .int (0 : Int32)), (0, .ref (w.2.1 (0)))]) rfl ?_
    refine g_iconst (pc := 26) (v := 0) C dX7_odds_26 kc_0 ?_
    refine g_istore_n (pc := 27) C dX7_odds_27 rfl (by decide) (lv' := [(2, .int (0 : Int32)), (1, .int (0 : Int32)), (0, .ref (w.2.1 (0)))]) rfl ?_
    refine g_iconst (pc := 28) (v := 0) C dX7_odds_28 kc_0 ?_
    refine g_istore_n (pc := 29) C dX7_odds_29 rfl (by decide) (lv' := [(3, .int (0 : Int32)), (2, .int (0 : Int32)), (1, .int (0 : Int32)), (0, .ref (w.2.1 (0)))]) rfl ?_
    refine g_lv (lv' := [(0, .ref (w.2.1 (0))), (1, .int (0 : Int32)), (2, .int (0 : Int32)), (3, .int (0 : Int32))]) [3, 2, 1, 0] rfl ?_
    exact j_X7_odds_30 C KF (0 : Int32) (0 : Int32) (0 : Int32) h2
/-- SnowHouse.plansThere()I -/
def f_X7_plansThere_24 (h : TT)  (k4 : Int32 → Int32 → Option Int32) (x1 : Int32) (x2 : Int32) : Option Int32 := k4 x1 (x2 + (1 : Int32))
set_option maxRecDepth 20000 in
theorem j_X7_plansThere_24 {p : Program} {l : Launch} {e : Env} {R : Room} {s : State} {m : MethodId} {args : Array Value} {below : List Frame} {meth : Method} {c : Code} {w : WK} (C : CX p R s m args meth c w RX7 cX7_plansThere 3 (some .int) 0 0) (h : TT)   {k4 : Int32 → Int32 → Option Int32} (hk4 : ∀ (x1 : Int32) (x2 : Int32) , GO p l e R s m args below meth c w 3 (fI h) (k4 x1 x2) 4 [(0, .ref (w.2.1 (0))), (1, .int x1), (2, .int x2)] [] h) (x1 : Int32) (x2 : Int32)  : GO p l e R s m args below meth c w 3 (fI h) (f_X7_plansThere_24 h k4 x1 x2) 24 [(0, .ref (w.2.1 (0))), (1, .int x1), (2, .int x2)] [] h := by
  unfold f_X7_plansThere_24
  refine g_iinc (pc := 24) C 2 rfl dX7_plansThere_24 (ki_1 _) (by decide) (lv' := [(2, .int (x2 + (1 : Int32))), (0, .ref (w.2.1 (0))), (1, .int x1)]) rfl ?_
  refine g_goto (pc := 27) (tgt := 4) C dX7_plansThere_27 (by decide) ?_
  refine g_lv (lv' := [(0, .ref (w.2.1 (0))), (1, .int x1), (2, .int (x2 + (1 : Int32)))]) [1, 2, 0] rfl ?_
  exact hk4 x1 (x2 + (1 : Int32))
def f_X7_plansThere_4 (h : TT)   : Nat → Int32 → Int32 → Option Int32
  | 0, _, _ => none
  | n + 1, x1, x2 => (if (4 : Int32) ≤ x2 then some x1 else if inb x2 4 = true then (if (h.1 (25 + 4 * x2.toNatClampNeg) 0) = 0 then f_X7_plansThere_24 h (f_X7_plansThere_4 h n) x1 x2 else f_X7_plansThere_24 h (f_X7_plansThere_4 h n) (x1 + (1 : Int32)) x2) else none)
set_option maxRecDepth 20000 in
theorem j_X7_plansThere_4 {p : Program} {l : Launch} {e : Env} {R : Room} {s : State} {m : MethodId} {args : Array Value} {below : List Frame} {meth : Method} {c : Code} {w : WK} (C : CX p R s m args meth c w RX7 cX7_plansThere 3 (some .int) 0 0) (h : TT)    : ∀ (n : Nat) (x1 : Int32) (x2 : Int32), GO p l e R s m args below meth c w 3 (fI h) (f_X7_plansThere_4 h n x1 x2) 4 [(0, .ref (w.2.1 (0))), (1, .int x1), (2, .int x2)] [] h := by
  intro n
  induction n with
  | zero =>
    intro x1 x2
    exact g_none
  | succ n ih =>
    intro x1 x2
    rw [f_X7_plansThere_4]
    refine g_iload_n (pc := 4) C 2 rfl dX7_plansThere_4 rfl ?_
    refine g_iconst (pc := 5) (v := 4) C dX7_plansThere_5 kc_4 ?_
    refine g_icmp_ge (pc := 6) (tgt := 30) C dX7_plansThere_6 (by decide) (fun hc1 => ?_) (fun hc1 => ?_)
    · refine g_iload_n (pc := 30) C 1 rfl dX7_plansThere_30 rfl ?_
      exact g_iret C dX7_plansThere_31
    · refine g_aload_n (pc := 9) C 0 rfl dX7_plansThere_9 rfl ?_
      refine g_get (pc := 10) C so_RX7 5 fl_RX7_41 (v := .ref (w.2.1 (24))) rfl dX7_plansThere_10 ?_
      refine g_iload_n (pc := 13) C 2 rfl dX7_plansThere_13 rfl ?_
      refine g_aald (pc := 14) (cA := 0) C sr_plans rfl rfl dX7_plansThere_14 (fun hb2 => ?_)
      refine g_get (pc := 15) C (so_RX3 (isPl hb2)) 0 fl_RX7_164 (v := .int (h.1 (25 + 4 * x2.toNatClampNeg) 0)) rfl dX7_plansThere_15 ?_
      refine g_if_eq (pc := 18) (tgt := 24) C dX7_plansThere_18 (by decide) (fun hc3 => ?_) (fun hc3 => ?_)
      · exact j_X7_plansThere_24 C h ih x1 x2
      · refine g_iinc (pc := 21) C 1 rfl dX7_plansThere_21 (ki_1 _) (by decide) (lv' := [(1, .int (x1 + (1 : Int32))), (0, .ref (w.2.1 (0))), (2, .int x2)]) rfl ?_
        refine g_lv (lv' := [(0, .ref (w.2.1 (0))), (1, .int (x1 + (1 : Int32))), (2, .int x2)]) [1, 0, 2] rfl ?_
        exact j_X7_plansThere_24 C h ih (x1 + (1 : Int32)) x2
def f_X7_plansThere (h : TT)  : Option Int32 := f_X7_plansThere_4 h KF (0 : Int32) (0 : Int32)
set_option maxRecDepth 20000 in
theorem m_X7_plansThere {l : Launch} {w : WK} {h : TT}  {x : Int32} (hx : f_X7_plansThere h  = some x)  : Met l yX7_plansThere (Cond.code yX7_plansThere cX7_plansThere 3 (some .int) :: wsG) { frames := 0, cells := 0, slots := 0, locals := 0 } (PG w [.ref (w.2.1 (0))] h) (QG w ((fI h) x)) 0 0 (AA w) := by
  refine m_entry (own := RX7) (f := (fI h)) hx (by decide) rfl (Nat.le_of_ble_eq_true rfl) (fun p e s m args below meth c C => ?_)
  show GO p l e _ s m args below meth c w 3 (fI h) (f_X7_plansThere h ) 0 [(0, .ref (w.2.1 (0)))] [] h
  unfold f_X7_plansThere
  refine g_iconst (pc := 0) (v := 0) C dX7_plansThere_0 kc_0 ?_
  refine g_istore_n (pc := 1) C dX7_plansThere_1 rfl (by decide) (lv' := [(1, .int (0 : Int32)), (0, .ref (w.2.1 (0)))]) rfl ?_
  refine g_iconst (pc := 2) (v := 0) C dX7_plansThere_2 kc_0 ?_
  refine g_istore_n (pc := 3) C dX7_plansThere_3 rfl (by decide) (lv' := [(2, .int (0 : Int32)), (1, .int (0 : Int32)), (0, .ref (w.2.1 (0)))]) rfl ?_
  refine g_lv (lv' := [(0, .ref (w.2.1 (0))), (1, .int (0 : Int32)), (2, .int (0 : Int32))]) [2, 1, 0] rfl ?_
  exact j_X7_plansThere_4 C h KF (0 : Int32) (0 : Int32)
/-- SnowHouse$Plan.minutesBy(I)I -/
def f_X3_minutesBy (h : TT) (o0 : Nat) (x1 : Int32) : Option Int32 := nm ((h.1 o0 3) * (h.1 o0 2)) fun y1 => (if x1 = (2 : Int32) then some ((y1 + (1 : Int32)) / (2 : Int32)) else some y1)
set_option maxRecDepth 20000 in
theorem m_X3_minutesBy {l : Launch} {w : WK} {h : TT} {o0 : Nat} {x1 : Int32} {x : Int32} (hx : f_X3_minutesBy h o0 x1 = some x) (ho0 : IsP o0) : Met l yX3_minutesBy (Cond.code yX3_minutesBy cX3_minutesBy 3 (some .int) :: wsG) { frames := 0, cells := 0, slots := 0, locals := 0 } (PG w [.ref (w.2.1 (o0)), .int x1] h) (QG w ((fI h) x)) 0 0 (AA w) := by
  refine m_entry (own := RX3) (f := (fI h)) hx (by decide) rfl (Nat.le_of_ble_eq_true rfl) (fun p e s m args below meth c C => ?_)
  show GO p l e _ s m args below meth c w 3 (fI h) (f_X3_minutesBy h o0 x1) 0 [(0, .ref (w.2.1 (o0))), (1, .int x1)] [] h
  unfold f_X3_minutesBy
  refine g_aload_n (pc := 0) C 0 rfl dX3_minutesBy_0 rfl ?_
  refine g_get (pc := 1) C (so_RX3 ho0) 3 fl_RX3_32 (v := .int (h.1 o0 3)) rfl dX3_minutesBy_1 ?_
  refine g_aload_n (pc := 4) C 0 rfl dX3_minutesBy_4 rfl ?_
  refine g_get (pc := 5) C (so_RX3 ho0) 2 fl_RX3_29 (v := .int (h.1 o0 2)) rfl dX3_minutesBy_5 ?_
  refine g_imul (pc := 8) C dX3_minutesBy_8 ?_
  refine g_nmi (fun y1 => ?_)
  refine g_istore_n (pc := 9) C dX3_minutesBy_9 rfl (by decide) (lv' := [(2, .int y1), (0, .ref (w.2.1 (o0))), (1, .int x1)]) rfl ?_
  refine g_iload_n (pc := 10) C 2 rfl dX3_minutesBy_10 rfl ?_
  refine g_iconst (pc := 11) (v := 2) C dX3_minutesBy_11 kc_2 ?_
  refine g_icmp_ne (pc := 12) (tgt := 23) C dX3_minutesBy_12 (by decide) (fun hc2 => ?_) (fun hc2 => ?_)
  · refine g_iload_n (pc := 15) C 0 rfl dX3_minutesBy_15 rfl ?_
    refine g_iconst (pc := 16) (v := 1) C dX3_minutesBy_16 kc_1 ?_
    refine g_iadd (pc := 17) C dX3_minutesBy_17 ?_
    refine g_iconst (pc := 18) (v := 2) C dX3_minutesBy_18 kc_2 ?_
    refine g_idiv (pc := 19) C dX3_minutesBy_19 (by decide) ?_
    refine g_goto (pc := 20) (tgt := 24) C dX3_minutesBy_20 (by decide) ?_
    exact g_iret C dX3_minutesBy_24
  · refine g_iload_n (pc := 23) C 0 rfl dX3_minutesBy_23 rfl ?_
    exact g_iret C dX3_minutesBy_24
/-- SnowHouse.storm(IIII)I -/
def f_X7_storm_58    (h : TT) : Option (Int32 × TT) := (f_X7_found h (1 : Int32)).bind fun q11 => some (q11.1, q11.2)
set_option maxRecDepth 20000 in
theorem j_X7_storm_58 {p : Program} {l : Launch} {e : Env} {R : Room} {s : State} {m : MethodId} {args : Array Value} {below : List Frame} {meth : Method} {c : Code} {w : WK} (C : CX p R s m args meth c w RX7 cX7_storm 9 (some .int) 5 119)       (h : TT) : GO p l e R s m args below meth c w 9 fIT (f_X7_storm_58 h) 58 [(0, .ref (w.2.1 (0)))] [] h := by
  unfold f_X7_storm_58
  refine g_aload_n (pc := 58) C 0 rfl dX7_storm_58 rfl ?_
  refine g_iconst (pc := 59) (v := 1) C dX7_storm_59 kc_1 ?_
  refine g_callIT (pc := 60) (rest := []) (g_runV C mv_RX7_109 (fun x1 hx1 => m_X7_found hx1) so_RX7 rfl (by decide) rfl rfl (Nat.le_of_ble_eq_true rfl) dX7_storm_60) (fun q11 => ?_)
  exact g_iretT C dX7_storm_63
def f_X7_storm_203   (x5 : Int32) (h : TT) : Option (Int32 × TT) := some (x5, h)
set_option maxRecDepth 20000 in
theorem j_X7_storm_203 {p : Program} {l : Launch} {e : Env} {R : Room} {s : State} {m : MethodId} {args : Array Value} {below : List Frame} {meth : Method} {c : Code} {w : WK} (C : CX p R s m args meth c w RX7 cX7_storm 9 (some .int) 5 119)     (x5 : Int32)  (h : TT) : GO p l e R s m args below meth c w 9 fIT (f_X7_storm_203 x5 h) 203 [(5, .int x5)] [] h := by
  unfold f_X7_storm_203
  refine g_iload (pc := 203) C 0 rfl dX7_storm_203 ?_
  exact g_iretT C dX7_storm_205
def f_X7_storm_175  (k75 : Int32 → Int32 → Int32 → Int32 → Int32 → Int32 → Int32 → TT → Option (Int32 × TT)) (x1 : Int32) (x2 : Int32) (x3 : Int32) (x4 : Int32) (x5 : Int32) (x6 : Int32) (x7 : Int32) (h : TT) : Option (Int32 × TT) := k75 x1 x2 x3 x4 x5 x6 (x7 + (1 : Int32)) h
set_option maxRecDepth 20000 in
theorem j_X7_storm_175 {p : Program} {l : Launch} {e : Env} {R : Room} {s : State} {m : MethodId} {args : Array Value} {below : List Frame} {meth : Method} {c : Code} {w : WK} (C : CX p R s m args meth c w RX7 cX7_storm 9 (some .int) 5 119)    {k75 : Int32 → Int32 → Int32 → Int32 → Int32 → Int32 → Int32 → TT → Option (Int32 × TT)} (hk75 : ∀ (x1 : Int32) (x2 : Int32) (x3 : Int32) (x4 : Int32) (x5 : Int32) (x6 : Int32) (x7 : Int32)  (h : TT), GO p l e R s m args below meth c w 9 fIT (k75 x1 x2 x3 x4 x5 x6 x7 h) 75 [(0, .ref (w.2.1 (0))), (1, .int x1), (2, .int x2), (3, .int x3), (4, .int x4), (5, .int x5), (6, .int x6), (7, .int x7)] [] h) (x1 : Int32) (x2 : Int32) (x3 : Int32) (x4 : Int32) (x5 : Int32) (x6 : Int32) (x7 : Int32)  (h : TT) : GO p l e R s m args below meth c w 9 fIT (f_X7_storm_175 k75 x1 x2 x3 x4 x5 x6 x7 h) 175 [(0, .ref (w.2.1 (0))), (1, .int x1), (2, .int x2), (3, .int x3), (4, .int x4), (5, .int x5), (6, .int x6), (7, .int x7)] [] h := by
  unfold f_X7_storm_175
  refine g_iinc (pc := 175) C 7 rfl dX7_storm_175 (ki_1 _) (by decide) (lv' := [(7, .int (x7 + (1 : Int32))), (0, .ref (w.2.1 (0))), (1, .int x1), (2, .int x2), (3, .int x3), (4, .int x4), (5, .int x5), (6, .int x6)]) rfl ?_
  refine g_goto (pc := 178) (tgt := 75) C dX7_storm_178 (by decide) ?_
  refine g_lv (lv' := [(0, .ref (w.2.1 (0))), (1, .int x1), (2, .int x2), (3, .int x3), (4, .int x4), (5, .int x5), (6, .int x6), (7, .int (x7 + (1 : Int32)))]) [1, 2, 3, 4, 5, 6, 7, 0] rfl ?_
  exact hk75 x1 x2 x3 x4 x5 x6 (x7 + (1 : Int32)) h
def f_X7_storm_75   : Nat → Int32 → Int32 → Int32 → Int32 → Int32 → Int32 → Int32 → TT → Option (Int32 × TT)
  | 0, _, _, _, _, _, _, _, _ => none
  | n + 1, x1, x2, x3, x4, x5, x6, x7, h => (if (4 : Int32) ≤ x7 then (if x5 = (-9 : Int32) then f_X7_storm_203 x5 h else if inb x5 4 = true then (f_X3_minutesBy h (25 + 4 * x5.toNatClampNeg) x2).bind fun r17 => nm (wr h 0 13 r17) fun h18 => f_X7_storm_203 x5 h18 else none) else if inb x7 4 = true then (if (h.1 (25 + 4 * x7.toNatClampNeg) 0) = 0 then f_X7_storm_175 (f_X7_storm_75 n) x1 x2 x3 x4 x5 x6 x7 h else (if (h.1 (25 + 4 * x7.toNatClampNeg) 2) < x6 then (f_X3_sleepers h (25 + 4 * x7.toNatClampNeg)).bind fun r22 => (if r22 < x4 then f_X7_storm_175 (f_X7_storm_75 n) x1 x2 x3 x4 x5 x6 x7 h else (f_X3_minutesBy h (25 + 4 * x7.toNatClampNeg) x2).bind fun r24 => (if r24 ≤ x3 then if inb x1 4 = true then (f_X0_begin h 110 (16 + 2 * x1.toNatClampNeg) (25 + 4 * x7.toNatClampNeg) x2).bind fun h27 => (f_X0_raise h27 110 (0 : Int32)).bind fun q28 => (if q28.1 ≤ 0 then nm (q28.2.1 (25 + 4 * x7.toNatClampNeg) 2) fun y30 => f_X7_storm_175 (f_X7_storm_75 n) x1 x2 x3 x4 x7 y30 x7 q28.2 else f_X7_storm_175 (f_X7_storm_75 n) x1 x2 x3 x4 x5 x6 x7 q28.2) else none else f_X7_storm_175 (f_X7_storm_75 n) x1 x2 x3 x4 x5 x6 x7 h)) else f_X7_storm_175 (f_X7_storm_75 n) x1 x2 x3 x4 x5 x6 x7 h)) else none)
set_option maxRecDepth 20000 in
theorem j_X7_storm_75 {p : Program} {l : Launch} {e : Env} {R : Room} {s : State} {m : MethodId} {args : Array Value} {below : List Frame} {meth : Method} {c : Code} {w : WK} (C : CX p R s m args meth c w RX7 cX7_storm 9 (some .int) 5 119)     : ∀ (n : Nat) (x1 : Int32) (x2 : Int32) (x3 : Int32) (x4 : Int32) (x5 : Int32) (x6 : Int32) (x7 : Int32) (h : TT), GO p l e R s m args below meth c w 9 fIT (f_X7_storm_75 n x1 x2 x3 x4 x5 x6 x7 h) 75 [(0, .ref (w.2.1 (0))), (1, .int x1), (2, .int x2), (3, .int x3), (4, .int x4), (5, .int x5), (6, .int x6), (7, .int x7)] [] h := by
  intro n
  induction n with
  | zero =>
    intro x1 x2 x3 x4 x5 x6 x7 h
    exact g_none
  | succ n ih =>
    intro x1 x2 x3 x4 x5 x6 x7 h
    rw [f_X7_storm_75]
    refine g_iload (pc := 75) C 7 rfl dX7_storm_75 ?_
    refine g_iconst (pc := 77) (v := 4) C dX7_storm_77 kc_4 ?_
    refine g_icmp_ge (pc := 78) (tgt := 181) C dX7_storm_78 (by decide) (fun hc14 => ?_) (fun hc14 => ?_)
    · refine g_iload (pc := 181) C 5 rfl dX7_storm_181 ?_
      refine g_bipush (pc := 183) (v := -9) C dX7_storm_183 kb_m9 ?_
      refine g_icmp_eq (pc := 185) (tgt := 203) C dX7_storm_185 (by decide) (fun hc15 => ?_) (fun hc15 => ?_)
      · refine g_lv (lv' := [(5, .int x5)]) [5] rfl ?_
        exact j_X7_storm_203 C x5 h
      · refine g_aload_n (pc := 188) C 0 rfl dX7_storm_188 rfl ?_
        refine g_aload_n (pc := 189) C 0 rfl dX7_storm_189 rfl ?_
        refine g_get (pc := 190) C so_RX7 5 fl_RX7_41 (v := .ref (w.2.1 (24))) rfl dX7_storm_190 ?_
        refine g_iload (pc := 193) C 5 rfl dX7_storm_193 ?_
        refine g_aald (pc := 195) (cA := 0) C sr_plans rfl rfl dX7_storm_195 (fun hb16 => ?_)
        refine g_iload_n (pc := 196) C 2 rfl dX7_storm_196 rfl ?_
        refine g_callI (pc := 197) (rest := [.ref (w.2.1 (0))]) (g_runV C mv_RX7_276 (fun x1 hx1 => m_X3_minutesBy hx1 (isPl hb16)) (so_RX3 (isPl hb16)) rfl (by decide) rfl rfl (Nat.le_of_ble_eq_true rfl) dX7_storm_197) (fun r17 => ?_)
        refine g_putI (pc := 200) C so_RX7 13 fp_RX7_88 (se_RX7_13 _) rfl rfl (sl_RX7_13) dX7_storm_200 ?_
        refine g_nm (fun h18 => ?_)
        refine g_lv (lv' := [(5, .int x5)]) [5] rfl ?_
        exact j_X7_storm_203 C x5 h18
    · refine g_aload_n (pc := 81) C 0 rfl dX7_storm_81 rfl ?_
      refine g_get (pc := 82) C so_RX7 5 fl_RX7_41 (v := .ref (w.2.1 (24))) rfl dX7_storm_82 ?_
      refine g_iload (pc := 85) C 7 rfl dX7_storm_85 ?_
      refine g_aald (pc := 87) (cA := 0) C sr_plans rfl rfl dX7_storm_87 (fun hb19 => ?_)
      refine g_astore (pc := 88) C dX7_storm_88 (by decide) (lv' := [(8, .ref (w.2.1 (25 + 4 * x7.toNatClampNeg))), (0, .ref (w.2.1 (0))), (1, .int x1), (2, .int x2), (3, .int x3), (4, .int x4), (5, .int x5), (6, .int x6), (7, .int x7)]) rfl ?_
      refine g_aload (pc := 90) C 0 rfl dX7_storm_90 ?_
      refine g_get (pc := 92) C (so_RX3 (isPl hb19)) 0 fl_RX7_164 (v := .int (h.1 (25 + 4 * x7.toNatClampNeg) 0)) rfl dX7_storm_92 ?_
      refine g_if_eq (pc := 95) (tgt := 175) C dX7_storm_95 (by decide) (fun hc20 => ?_) (fun hc20 => ?_)
      · refine g_lv (lv' := [(0, .ref (w.2.1 (0))), (1, .int x1), (2, .int x2), (3, .int x3), (4, .int x4), (5, .int x5), (6, .int x6), (7, .int x7)]) [1, 2, 3, 4, 5, 6, 7, 8] rfl ?_
        exact j_X7_storm_175 C ih x1 x2 x3 x4 x5 x6 x7 h
      · refine g_aload (pc := 98) C 0 rfl dX7_storm_98 ?_
        refine g_get (pc := 100) C (so_RX3 (isPl hb19)) 2 fl_RX7_154 (v := .int (h.1 (25 + 4 * x7.toNatClampNeg) 2)) rfl dX7_storm_100 ?_
        refine g_iload (pc := 103) C 7 rfl dX7_storm_103 ?_
        refine g_icmp_lt (pc := 105) (tgt := 111) C dX7_storm_105 (by decide) (fun hc21 => ?_) (fun hc21 => ?_)
        · refine g_aload (pc := 111) C 0 rfl dX7_storm_111 ?_
          refine g_callI (pc := 113) (rest := []) (g_runV C mv_RX7_273 (fun x1 hx1 => m_X3_sleepers hx1 (isPl hb19)) (so_RX3 (isPl hb19)) rfl (by decide) rfl rfl (Nat.le_of_ble_eq_true rfl) dX7_storm_113) (fun r22 => ?_)
          refine g_iload (pc := 116) C 5 rfl dX7_storm_116 ?_
          refine g_icmp_lt (pc := 118) (tgt := 175) C dX7_storm_118 (by decide) (fun hc23 => ?_) (fun hc23 => ?_)
          · refine g_lv (lv' := [(0, .ref (w.2.1 (0))), (1, .int x1), (2, .int x2), (3, .int x3), (4, .int x4), (5, .int x5), (6, .int x6), (7, .int x7)]) [1, 2, 3, 4, 5, 6, 7, 8] rfl ?_
            exact j_X7_storm_175 C ih x1 x2 x3 x4 x5 x6 x7 h
          · refine g_aload (pc := 121) C 0 rfl dX7_storm_121 ?_
            refine g_iload_n (pc := 123) C 3 rfl dX7_storm_123 rfl ?_
            refine g_callI (pc := 124) (rest := []) (g_runV C mv_RX7_276 (fun x1 hx1 => m_X3_minutesBy hx1 (isPl hb19)) (so_RX3 (isPl hb19)) rfl (by decide) rfl rfl (Nat.le_of_ble_eq_true rfl) dX7_storm_124) (fun r24 => ?_)
            refine g_iload_n (pc := 127) C 4 rfl dX7_storm_127 rfl ?_
            refine g_icmp_le (pc := 128) (tgt := 134) C dX7_storm_128 (by decide) (fun hc25 => ?_) (fun hc25 => ?_)
            · refine g_aload_n (pc := 134) C 1 rfl dX7_storm_134 rfl ?_
              refine g_get (pc := 135) C so_RX7 8 fl_RX7_57 (v := .ref (w.2.1 (110))) rfl dX7_storm_135 ?_
              refine g_aload_n (pc := 138) C 1 rfl dX7_storm_138 rfl ?_
              refine g_get (pc := 139) C so_RX7 4 fl_RX7_34 (v := .ref (w.2.1 (15))) rfl dX7_storm_139 ?_
              refine g_iload_n (pc := 142) C 2 rfl dX7_storm_142 rfl ?_
              refine g_aald (pc := 143) (cA := 0) C sr_snows rfl rfl dX7_storm_143 (fun hb26 => ?_)
              refine g_aload (pc := 144) C 0 rfl dX7_storm_144 ?_
              refine g_iload_n (pc := 146) C 3 rfl dX7_storm_146 rfl ?_
              refine g_callV (pc := 147) (rest := []) (g_runV C mv_RX7_181 (fun x1 hx1 => m_X0_begin hx1 isB110 (isSn hb26) (isPl hb19)) (so_RX0 isB110) rfl (by decide) rfl rfl (Nat.le_of_ble_eq_true rfl) dX7_storm_147) (fun h27 => ?_)
              refine g_aload_n (pc := 150) C 1 rfl dX7_storm_150 rfl ?_
              refine g_get (pc := 151) C so_RX7 8 fl_RX7_57 (v := .ref (w.2.1 (110))) rfl dX7_storm_151 ?_
              refine g_iconst (pc := 154) (v := 0) C dX7_storm_154 kc_0 ?_
              refine g_callIT (pc := 155) (rest := []) (g_runV C mv_RX7_237 (fun x1 hx1 => m_X0_raise hx1 isB110) (so_RX0 isB110) rfl (by decide) rfl rfl (Nat.le_of_ble_eq_true rfl) dX7_storm_155) (fun q28 => ?_)
              refine g_if_le (pc := 158) (tgt := 164) C dX7_storm_158 (by decide) (fun hc29 => ?_) (fun hc29 => ?_)
              · refine g_iload (pc := 164) C 8 rfl dX7_storm_164 ?_
                refine g_istore (pc := 166) C dX7_storm_166 (by decide) (lv' := [(5, .int x7), (8, .ref (w.2.1 (25 + 4 * x7.toNatClampNeg))), (0, .ref (w.2.1 (0))), (1, .int x1), (2, .int x2), (3, .int x3), (4, .int x4), (6, .int x6), (7, .int x7)]) rfl ?_
                refine g_aload (pc := 168) C 1 rfl dX7_storm_168 ?_
                refine g_get (pc := 170) C (so_RX3 (isPl hb19)) 2 fl_RX7_154 (v := .int (q28.2.1 (25 + 4 * x7.toNatClampNeg) 2)) rfl dX7_storm_170 ?_
                refine g_nmi (fun y30 => ?_)
                refine g_istore (pc := 173) C dX7_storm_173 (by decide) (lv' := [(6, .int y30), (5, .int x7), (8, .ref (w.2.1 (25 + 4 * x7.toNatClampNeg))), (0, .ref (w.2.1 (0))), (1, .int x1), (2, .int x2), (3, .int x3), (4, .int x4), (7, .int x7)]) rfl ?_
                refine g_lv (lv' := [(0, .ref (w.2.1 (0))), (1, .int x1), (2, .int x2), (3, .int x3), (4, .int x4), (5, .int x7), (6, .int y30), (7, .int x7)]) [3, 4, 5, 6, 7, 1, 0, 8] rfl ?_
                exact j_X7_storm_175 C ih x1 x2 x3 x4 x7 y30 x7 q28.2
              · refine g_goto (pc := 161) (tgt := 175) C dX7_storm_161 (by decide) ?_
                refine g_lv (lv' := [(0, .ref (w.2.1 (0))), (1, .int x1), (2, .int x2), (3, .int x3), (4, .int x4), (5, .int x5), (6, .int x6), (7, .int x7)]) [1, 2, 3, 4, 5, 6, 7, 8] rfl ?_
                exact j_X7_storm_175 C ih x1 x2 x3 x4 x5 x6 x7 q28.2
            · refine g_goto (pc := 131) (tgt := 175) C dX7_storm_131 (by decide) ?_
              refine g_lv (lv' := [(0, .ref (w.2.1 (0))), (1, .int x1), (2, .int x2), (3, .int x3), (4, .int x4), (5, .int x5), (6, .int x6), (7, .int x7)]) [1, 2, 3, 4, 5, 6, 7, 8] rfl ?_
              exact j_X7_storm_175 C ih x1 x2 x3 x4 x5 x6 x7 h
        · refine g_goto (pc := 108) (tgt := 175) C dX7_storm_108 (by decide) ?_
          refine g_lv (lv' := [(0, .ref (w.2.1 (0))), (1, .int x1), (2, .int x2), (3, .int x3), (4, .int x4), (5, .int x5), (6, .int x6), (7, .int x7)]) [1, 2, 3, 4, 5, 6, 7, 8] rfl ?_
          exact j_X7_storm_175 C ih x1 x2 x3 x4 x5 x6 x7 h
def f_X7_storm (h : TT) (x1 : Int32) (x2 : Int32) (x3 : Int32) (x4 : Int32) : Option (Int32 × TT) := (f_X7_isBelow h x1 (4 : Int32)).bind fun r1 => (if r1 = 0 then some ((-1 : Int32), h) else (f_X7_areBuilders h x2).bind fun r3 => (if r3 = 0 then some ((-1 : Int32), h) else (f_X7_isUpTo h x3 (600 : Int32)).bind fun r5 => (if r5 = 0 then some ((-1 : Int32), h) else (f_X7_isUpTo h x4 (6 : Int32)).bind fun r7 => (if r7 = 0 then some ((-1 : Int32), h) else if inb x1 4 = true then (if (h.1 (16 + 2 * x1.toNatClampNeg) 0) = 0 then f_X7_storm_58 h else (f_X7_plansThere h).bind fun r12 => (if r12 = 0 then f_X7_storm_58 h else f_X7_storm_75 KF x1 x2 x3 x4 (-9 : Int32) (61 : Int32) (0 : Int32) h)) else none))))
set_option maxRecDepth 20000 in
theorem m_X7_storm {l : Launch} {w : WK} {h : TT} {x1 : Int32} {x2 : Int32} {x3 : Int32} {x4 : Int32} {x : (Int32 × TT)} (hx : f_X7_storm h x1 x2 x3 x4 = some x)  : Met l yX7_storm (Cond.code yX7_storm cX7_storm 9 (some .int) :: wsG) { frames := 5, cells := 0, slots := 0, locals := 119 } (PG w [.ref (w.2.1 (0)), .int x1, .int x2, .int x3, .int x4] h) (QG w (fIT x)) 0 0 (AA w) := by
  refine m_entry (own := RX7) (f := fIT) hx (by decide) rfl (Nat.le_of_ble_eq_true rfl) (fun p e s m args below meth c C => ?_)
  show GO p l e _ s m args below meth c w 9 fIT (f_X7_storm h x1 x2 x3 x4) 0 [(0, .ref (w.2.1 (0))), (1, .int x1), (2, .int x2), (3, .int x3), (4, .int x4)] [] h
  unfold f_X7_storm
  refine g_iload_n (pc := 0) C 1 rfl dX7_storm_0 rfl ?_
  refine g_iconst (pc := 1) (v := 4) C dX7_storm_1 kc_4 ?_
  refine g_callI (pc := 2) (rest := []) (g_runS C ms_RX7_105 (fun x1 hx1 => m_X7_isBelow hx1) (by decide) rfl rfl (Nat.le_of_ble_eq_true rfl) dX7_storm_2) (fun r1 => ?_)
  refine g_if_eq (pc := 5) (tgt := 15) C dX7_storm_5 (by decide) (fun hc2 => ?_) (fun hc2 => ?_)
  · refine g_iconst (pc := 15) (v := -1) C dX7_storm_15 kc_m1 ?_
    exact g_iretT C dX7_storm_16
  · refine g_iload_n (pc := 8) C 2 rfl dX7_storm_8 rfl ?_
    refine g_callI (pc := 9) (rest := []) (g_runS C ms_RX7_177 (fun x1 hx1 => m_X7_areBuilders hx1) (by decide) rfl rfl (Nat.le_of_ble_eq_true rfl) dX7_storm_9) (fun r3 => ?_)
    refine g_if_ne (pc := 12) (tgt := 17) C dX7_storm_12 (by decide) (fun hc4 => ?_) (fun hc4 => ?_)
    · refine g_iconst (pc := 15) (v := -1) C dX7_storm_15 kc_m1 ?_
      exact g_iretT C dX7_storm_16
    · refine g_iload_n (pc := 17) C 3 rfl dX7_storm_17 rfl ?_
      refine g_sipush (pc := 18) (v := 600) C dX7_storm_18 ks_600 ?_
      refine g_callI (pc := 21) (rest := []) (g_runS C ms_RX7_186 (fun x1 hx1 => m_X7_isUpTo hx1) (by decide) rfl rfl (Nat.le_of_ble_eq_true rfl) dX7_storm_21) (fun r5 => ?_)
      refine g_if_eq (pc := 24) (tgt := 37) C dX7_storm_24 (by decide) (fun hc6 => ?_) (fun hc6 => ?_)
      · refine g_iconst (pc := 37) (v := -1) C dX7_storm_37 kc_m1 ?_
        exact g_iretT C dX7_storm_38
      · refine g_iload (pc := 27) C 4 rfl dX7_storm_27 ?_
        refine g_bipush (pc := 29) (v := 6) C dX7_storm_29 kb_6 ?_
        refine g_callI (pc := 31) (rest := []) (g_runS C ms_RX7_186 (fun x1 hx1 => m_X7_isUpTo hx1) (by decide) rfl rfl (Nat.le_of_ble_eq_true rfl) dX7_storm_31) (fun r7 => ?_)
        refine g_if_ne (pc := 34) (tgt := 39) C dX7_storm_34 (by decide) (fun hc8 => ?_) (fun hc8 => ?_)
        · refine g_iconst (pc := 37) (v := -1) C dX7_storm_37 kc_m1 ?_
          exact g_iretT C dX7_storm_38
        · refine g_aload_n (pc := 39) C 0 rfl dX7_storm_39 rfl ?_
          refine g_get (pc := 40) C so_RX7 4 fl_RX7_34 (v := .ref (w.2.1 (15))) rfl dX7_storm_40 ?_
          refine g_iload_n (pc := 43) C 1 rfl dX7_storm_43 rfl ?_
          refine g_aald (pc := 44) (cA := 0) C sr_snows rfl rfl dX7_storm_44 (fun hb9 => ?_)
          refine g_get (pc := 45) C (so_RX5 (isSn hb9)) 0 fl_RX7_157 (v := .int (h.1 (16 + 2 * x1.toNatClampNeg) 0)) rfl dX7_storm_45 ?_
          refine g_if_eq (pc := 48) (tgt := 58) C dX7_storm_48 (by decide) (fun hc10 => ?_) (fun hc10 => ?_)
          · refine g_lv (lv' := [(0, .ref (w.2.1 (0)))]) [0] rfl ?_
            exact j_X7_storm_58 C h
          · refine g_aload_n (pc := 51) C 0 rfl dX7_storm_51 rfl ?_
            refine g_callI (pc := 52) (rest := []) (g_runV C mv_RX7_270 (fun x1 hx1 => m_X7_plansThere hx1) so_RX7 rfl (by decide) rfl rfl (Nat.le_of_ble_eq_true rfl) dX7_storm_52) (fun r12 => ?_)
            refine g_if_ne (pc := 55) (tgt := 64) C dX7_storm_55 (by decide) (fun hc13 => ?_) (fun hc13 => ?_)
            · refine g_lv (lv' := [(0, .ref (w.2.1 (0)))]) [0] rfl ?_
              exact j_X7_storm_58 C h
            · refine g_bipush (pc := 64) (v := -9) C dX7_storm_64 kb_m9 ?_
              refine g_istore (pc := 66) C dX7_storm_66 (by decide) (lv' := [(5, .int (-9 : Int32)), (0, .ref (w.2.1 (0))), (1, .int x1), (2, .int x2), (3, .int x3), (4, .int x4)]) rfl ?_
              refine g_bipush (pc := 68) (v := 61) C dX7_storm_68 kb_61 ?_
              refine g_istore (pc := 70) C dX7_storm_70 (by decide) (lv' := [(6, .int (61 : Int32)), (5, .int (-9 : Int32)), (0, .ref (w.2.1 (0))), (1, .int x1), (2, .int x2), (3, .int x3), (4, .int x4)]) rfl ?_
              refine g_iconst (pc := 72) (v := 0) C dX7_storm_72 kc_0 ?_
              refine g_istore (pc := 73) C dX7_storm_73 (by decide) (lv' := [(7, .int (0 : Int32)), (6, .int (61 : Int32)), (5, .int (-9 : Int32)), (0, .ref (w.2.1 (0))), (1, .int x1), (2, .int x2), (3, .int x3), (4, .int x4)]) rfl ?_
              refine g_lv (lv' := [(0, .ref (w.2.1 (0))), (1, .int x1), (2, .int x2), (3, .int x3), (4, .int x4), (5, .int (-9 : Int32)), (6, .int (61 : Int32)), (7, .int (0 : Int32))]) [3, 4, 5, 6, 7, 2, 1, 0] rfl ?_
              exact j_X7_storm_75 C KF x1 x2 x3 x4 (-9 : Int32) (61 : Int32) (0 : Int32) h
/-- SnowHouse$Feast.clear()V -/
def f_X1_clear (h : TT)  : Option TT := if inb (4 : Int32) 5 = true then (f_J7_fill_53178 h (140 + (4 : Int32).toNatClampNeg) 41 (1000000 : Int32)).bind fun h2 => if inb (4 : Int32) 5 = true then if inb (0 : Int32) 41 = true then nm (wr h2 (140 + (4 : Int32).toNatClampNeg) (0 : Int32).toNatClampNeg (0 : Int32)) fun h5 => some h5 else none else none else none
set_option maxRecDepth 20000 in
theorem m_X1_clear {l : Launch} {w : WK} {h : TT}  {x : TT} (hx : f_X1_clear h  = some x)  : Met l yX1_clear (Cond.code yX1_clear cX1_clear 1 none :: wsG) { frames := 1, cells := 0, slots := 0, locals := 23 } (PG w [.ref (w.2.1 (138))] h) (QG w (fV x)) 0 0 (AA w) := by
  refine m_entry (own := RX1) (f := fV) hx (by decide) rfl (Nat.le_of_ble_eq_true rfl) (fun p e s m args below meth c C => ?_)
  show GO p l e _ s m args below meth c w 1 fV (f_X1_clear h ) 0 [(0, .ref (w.2.1 (138)))] [] h
  unfold f_X1_clear
  refine g_aload_n (pc := 0) C 0 rfl dX1_clear_0 rfl ?_
  refine g_get (pc := 1) C so_RX1 0 fl_RX1_11 (v := .ref (w.2.1 (139))) rfl dX1_clear_1 ?_
  refine g_iconst (pc := 4) (v := 4) C dX1_clear_4 kc_4 ?_
  refine g_aald (pc := 5) (cA := 0) C sr_few rfl rfl dX1_clear_5 (fun hb1 => ?_)
  refine g_ldc (pc := 6) C wd_RX1_20 dX1_clear_6 ?_
  refine g_callV (pc := 8) (rest := []) (g_runS C ms_RX1_21 (fun x1 hx1 => m_J7_fill_53178 hx1 (siFew hb1)) (by decide) rfl rfl (Nat.le_of_ble_eq_true rfl) dX1_clear_8) (fun h2 => ?_)
  refine g_aload_n (pc := 11) C 0 rfl dX1_clear_11 rfl ?_
  refine g_get (pc := 12) C so_RX1 0 fl_RX1_11 (v := .ref (w.2.1 (139))) rfl dX1_clear_12 ?_
  refine g_iconst (pc := 15) (v := 4) C dX1_clear_15 kc_4 ?_
  refine g_aald (pc := 16) (cA := 0) C sr_few rfl rfl dX1_clear_16 (fun hb3 => ?_)
  refine g_iconst (pc := 17) (v := 0) C dX1_clear_17 kc_0 ?_
  refine g_iconst (pc := 18) (v := 0) C dX1_clear_18 kc_0 ?_
  refine g_iast (pc := 19) C (siFew hb3) dX1_clear_19 (fun hb4 => ?_)
  refine g_nm (fun h5 => ?_)
  exact g_vret C dX1_clear_20
/-- SnowHouse$Feast.offer(III)V -/
def f_X1_offer_72  (k19 : Int32 → Int32 → Int32 → Int32 → TT → Option TT) (x1 : Int32) (x2 : Int32) (x3 : Int32) (x4 : Int32) (x5 : Int32) (h : TT) : Option TT := if inb x1 5 = true then if inb x4 41 = true then nm (wr h (140 + x1.toNatClampNeg) x4.toNatClampNeg x5) fun h12 => k19 x1 x2 x3 (x4 + (1 : Int32)) h12 else none else none
set_option maxRecDepth 20000 in
theorem j_X1_offer_72 {p : Program} {l : Launch} {e : Env} {R : Room} {s : State} {m : MethodId} {args : Array Value} {below : List Frame} {meth : Method} {c : Code} {w : WK} (C : CX p R s m args meth c w RX1 cX1_offer 6 none 1 21)    {k19 : Int32 → Int32 → Int32 → Int32 → TT → Option TT} (hk19 : ∀ (x1 : Int32) (x2 : Int32) (x3 : Int32) (x4 : Int32)  (h : TT), GO p l e R s m args below meth c w 6 fV (k19 x1 x2 x3 x4 h) 19 [(0, .ref (w.2.1 (138))), (1, .int x1), (2, .int x2), (3, .int x3), (4, .int x4)] [] h) (x1 : Int32) (x2 : Int32) (x3 : Int32) (x4 : Int32) (x5 : Int32)  (h : TT) : GO p l e R s m args below meth c w 6 fV (f_X1_offer_72 k19 x1 x2 x3 x4 x5 h) 72 [(0, .ref (w.2.1 (138))), (1, .int x1), (2, .int x2), (3, .int x3), (4, .int x4), (5, .int x5)] [] h := by
  unfold f_X1_offer_72
  refine g_aload_n (pc := 72) C 0 rfl dX1_offer_72 rfl ?_
  refine g_get (pc := 73) C so_RX1 0 fl_RX1_11 (v := .ref (w.2.1 (139))) rfl dX1_offer_73 ?_
  refine g_iload_n (pc := 76) C 1 rfl dX1_offer_76 rfl ?_
  refine g_aald (pc := 77) (cA := 0) C sr_few rfl rfl dX1_offer_77 (fun hb10 => ?_)
  refine g_iload (pc := 78) C 4 rfl dX1_offer_78 ?_
  refine g_iload (pc := 80) C 5 rfl dX1_offer_80 ?_
  refine g_iast (pc := 82) C (siFew hb10) dX1_offer_82 (fun hb11 => ?_)
  refine g_nm (fun h12 => ?_)
  refine g_iinc (pc := 83) C 4 rfl dX1_offer_83 (ki_1 _) (by decide) (lv' := [(4, .int (x4 + (1 : Int32))), (0, .ref (w.2.1 (138))), (1, .int x1), (2, .int x2), (3, .int x3), (5, .int x5)]) rfl ?_
  refine g_goto (pc := 86) (tgt := 19) C dX1_offer_86 (by decide) ?_
  refine g_lv (lv' := [(0, .ref (w.2.1 (138))), (1, .int x1), (2, .int x2), (3, .int x3), (4, .int (x4 + (1 : Int32)))]) [1, 2, 3, 4, 0] rfl ?_
  exact hk19 x1 x2 x3 (x4 + (1 : Int32)) h12
def f_X1_offer_19   : Nat → Int32 → Int32 → Int32 → Int32 → TT → Option TT
  | 0, _, _, _, _, _ => none
  | n + 1, x1, x2, x3, x4, h => (if (40 : Int32) < x4 then some h else if inb (x1 + (1 : Int32)) 5 = true then if inb x4 41 = true then nm (h.1 (140 + (x1 + (1 : Int32)).toNatClampNeg) x4.toNatClampNeg) fun y8 => (if x4 ≤ 0 then f_X1_offer_72 (f_X1_offer_19 n) x1 x2 x3 x4 y8 h else (if x2 ≤ 0 then f_X1_offer_72 (f_X1_offer_19 n) x1 x2 x3 x4 y8 h else if inb x1 5 = true then if inb (imax (0 : Int32) (x4 - x2)) 41 = true then nm (imin y8 (x3 + (h.1 (140 + x1.toNatClampNeg) (imax (0 : Int32) (x4 - x2)).toNatClampNeg))) fun y16 => f_X1_offer_72 (f_X1_offer_19 n) x1 x2 x3 x4 y16 h else none else none)) else none else none)
set_option maxRecDepth 20000 in
theorem j_X1_offer_19 {p : Program} {l : Launch} {e : Env} {R : Room} {s : State} {m : MethodId} {args : Array Value} {below : List Frame} {meth : Method} {c : Code} {w : WK} (C : CX p R s m args meth c w RX1 cX1_offer 6 none 1 21)     : ∀ (n : Nat) (x1 : Int32) (x2 : Int32) (x3 : Int32) (x4 : Int32) (h : TT), GO p l e R s m args below meth c w 6 fV (f_X1_offer_19 n x1 x2 x3 x4 h) 19 [(0, .ref (w.2.1 (138))), (1, .int x1), (2, .int x2), (3, .int x3), (4, .int x4)] [] h := by
  intro n
  induction n with
  | zero =>
    intro x1 x2 x3 x4 h
    exact g_none
  | succ n ih =>
    intro x1 x2 x3 x4 h
    rw [f_X1_offer_19]
    refine g_iload (pc := 19) C 4 rfl dX1_offer_19 ?_
    refine g_bipush (pc := 21) (v := 40) C dX1_offer_21 kb_40 ?_
    refine g_icmp_gt (pc := 23) (tgt := 89) C dX1_offer_23 (by decide) (fun hc5 => ?_) (fun hc5 => ?_)
    · exact g_vret C dX1_offer_89
    · refine g_aload_n (pc := 26) C 0 rfl dX1_offer_26 rfl ?_
      refine g_get (pc := 27) C so_RX1 0 fl_RX1_11 (v := .ref (w.2.1 (139))) rfl dX1_offer_27 ?_
      refine g_iload_n (pc := 30) C 1 rfl dX1_offer_30 rfl ?_
      refine g_iconst (pc := 31) (v := 1) C dX1_offer_31 kc_1 ?_
      refine g_iadd (pc := 32) C dX1_offer_32 ?_
      refine g_aald (pc := 33) (cA := 0) C sr_few rfl rfl dX1_offer_33 (fun hb6 => ?_)
      refine g_iload (pc := 34) C 4 rfl dX1_offer_34 ?_
      refine g_iald (pc := 36) C (siFew hb6) dX1_offer_36 (fun hb7 => ?_)
      refine g_nmi (fun y8 => ?_)
      refine g_istore (pc := 37) C dX1_offer_37 (by decide) (lv' := [(5, .int y8), (0, .ref (w.2.1 (138))), (1, .int x1), (2, .int x2), (3, .int x3), (4, .int x4)]) rfl ?_
      refine g_iload (pc := 39) C 5 rfl dX1_offer_39 ?_
      refine g_if_le (pc := 41) (tgt := 72) C dX1_offer_41 (by decide) (fun hc9 => ?_) (fun hc9 => ?_)
      · refine g_lv (lv' := [(0, .ref (w.2.1 (138))), (1, .int x1), (2, .int x2), (3, .int x3), (4, .int x4), (5, .int y8)]) [1, 2, 3, 4, 5, 0] rfl ?_
        exact j_X1_offer_72 C ih x1 x2 x3 x4 y8 h
      · refine g_iload_n (pc := 44) C 3 rfl dX1_offer_44 rfl ?_
        refine g_if_le (pc := 45) (tgt := 72) C dX1_offer_45 (by decide) (fun hc13 => ?_) (fun hc13 => ?_)
        · refine g_lv (lv' := [(0, .ref (w.2.1 (138))), (1, .int x1), (2, .int x2), (3, .int x3), (4, .int x4), (5, .int y8)]) [1, 2, 3, 4, 5, 0] rfl ?_
          exact j_X1_offer_72 C ih x1 x2 x3 x4 y8 h
        · refine g_iload (pc := 48) C 0 rfl dX1_offer_48 ?_
          refine g_iload_n (pc := 50) C 4 rfl dX1_offer_50 rfl ?_
          refine g_aload_n (pc := 51) C 1 rfl dX1_offer_51 rfl ?_
          refine g_get (pc := 52) C so_RX1 0 fl_RX1_11 (v := .ref (w.2.1 (139))) rfl dX1_offer_52 ?_
          refine g_iload_n (pc := 55) C 2 rfl dX1_offer_55 rfl ?_
          refine g_aald (pc := 56) (cA := 0) C sr_few rfl rfl dX1_offer_56 (fun hb14 => ?_)
          refine g_iconst (pc := 57) (v := 0) C dX1_offer_57 kc_0 ?_
          refine g_iload (pc := 58) C 5 rfl dX1_offer_58 ?_
          refine g_iload_n (pc := 60) C 3 rfl dX1_offer_60 rfl ?_
          refine g_isub (pc := 61) C dX1_offer_61 ?_
          refine g_max (pc := 62) C wm_RX1_31 wst_max wini_math wco_max (by decide) (by decide) (Nat.le_of_ble_eq_true rfl) dX1_offer_62 ?_
          refine g_iald (pc := 65) C (siFew hb14) dX1_offer_65 (fun hb15 => ?_)
          refine g_iadd (pc := 66) C dX1_offer_66 ?_
          refine g_min (pc := 67) C wm_RX1_37 wst_min wini_math wco_min (by decide) (by decide) (Nat.le_of_ble_eq_true rfl) dX1_offer_67 ?_
          refine g_nmi (fun y16 => ?_)
          refine g_istore (pc := 70) C dX1_offer_70 (by decide) (lv' := [(5, .int y16), (0, .ref (w.2.1 (138))), (1, .int x1), (2, .int x2), (3, .int x3), (4, .int x4)]) rfl ?_
          refine g_lv (lv' := [(0, .ref (w.2.1 (138))), (1, .int x1), (2, .int x2), (3, .int x3), (4, .int x4), (5, .int y16)]) [1, 2, 3, 4, 5, 0] rfl ?_
          exact j_X1_offer_72 C ih x1 x2 x3 x4 y16 h
def f_X1_offer (h : TT) (x1 : Int32) (x2 : Int32) (x3 : Int32) : Option TT := (f_X7_isBelow h x1 (4 : Int32)).bind fun r1 => (if r1 = 0 then some h else if inb x1 4 = true then nm (wr h 145 x1.toNatClampNeg x2) fun h4 => f_X1_offer_19 KF x1 x2 x3 (0 : Int32) h4 else none)
set_option maxRecDepth 20000 in
theorem m_X1_offer {l : Launch} {w : WK} {h : TT} {x1 : Int32} {x2 : Int32} {x3 : Int32} {x : TT} (hx : f_X1_offer h x1 x2 x3 = some x)  : Met l yX1_offer (Cond.code yX1_offer cX1_offer 6 none :: wsG) { frames := 1, cells := 0, slots := 0, locals := 21 } (PG w [.ref (w.2.1 (138)), .int x1, .int x2, .int x3] h) (QG w (fV x)) 0 0 (AA w) := by
  refine m_entry (own := RX1) (f := fV) hx (by decide) rfl (Nat.le_of_ble_eq_true rfl) (fun p e s m args below meth c C => ?_)
  show GO p l e _ s m args below meth c w 6 fV (f_X1_offer h x1 x2 x3) 0 [(0, .ref (w.2.1 (138))), (1, .int x1), (2, .int x2), (3, .int x3)] [] h
  unfold f_X1_offer
  refine g_iload_n (pc := 0) C 1 rfl dX1_offer_0 rfl ?_
  refine g_iconst (pc := 1) (v := 4) C dX1_offer_1 kc_4 ?_
  refine g_callI (pc := 2) (rest := []) (g_runN C mn_RX1_27 (fun x1 hx1 => m_X7_isBelow hx1) (by decide) rfl rfl (Nat.le_of_ble_eq_true rfl) dX1_offer_2) (fun r1 => ?_)
  refine g_if_ne (pc := 5) (tgt := 9) C dX1_offer_5 (by decide) (fun hc2 => ?_) (fun hc2 => ?_)
  · exact g_vret C dX1_offer_8
  · refine g_aload_n (pc := 9) C 0 rfl dX1_offer_9 rfl ?_
    refine g_get (pc := 10) C so_RX1 1 fl_RX1_16 (v := .ref (w.2.1 (145))) rfl dX1_offer_10 ?_
    refine g_iload_n (pc := 13) C 1 rfl dX1_offer_13 rfl ?_
    refine g_iload_n (pc := 14) C 2 rfl dX1_offer_14 rfl ?_
    refine g_iast (pc := 15) C si_145 dX1_offer_15 (fun hb3 => ?_)
    refine g_nm (fun h4 => ?_)
    refine g_iconst (pc := 16) (v := 0) C dX1_offer_16 kc_0 ?_
    refine g_istore (pc := 17) C dX1_offer_17 (by decide) (lv' := [(4, .int (0 : Int32)), (0, .ref (w.2.1 (138))), (1, .int x1), (2, .int x2), (3, .int x3)]) rfl ?_
    refine g_lv (lv' := [(0, .ref (w.2.1 (138))), (1, .int x1), (2, .int x2), (3, .int x3), (4, .int (0 : Int32))]) [1, 2, 3, 4, 0] rfl ?_
    exact j_X1_offer_19 C KF x1 x2 x3 (0 : Int32) h4
/-- SnowHouse$Feast.leastFor(I)I -/
def f_X1_leastFor (h : TT) (x1 : Int32) : Option Int32 := (f_X7_isUpTo h x1 (40 : Int32)).bind fun r1 => (if r1 = 0 then some (-9 : Int32) else if inb (0 : Int32) 5 = true then if inb x1 41 = true then (if (h.1 (140 + (0 : Int32).toNatClampNeg) x1.toNatClampNeg) < (1000000 : Int32) then if inb (0 : Int32) 5 = true then if inb x1 41 = true then some (h.1 (140 + (0 : Int32).toNatClampNeg) x1.toNatClampNeg) else none else none else some (-9 : Int32)) else none else none)
set_option maxRecDepth 20000 in
theorem m_X1_leastFor {l : Launch} {w : WK} {h : TT} {x1 : Int32} {x : Int32} (hx : f_X1_leastFor h x1 = some x)  : Met l yX1_leastFor (Cond.code yX1_leastFor cX1_leastFor 2 (some .int) :: wsG) { frames := 1, cells := 0, slots := 0, locals := 21 } (PG w [.ref (w.2.1 (138)), .int x1] h) (QG w ((fI h) x)) 0 0 (AA w) := by
  refine m_entry (own := RX1) (f := (fI h)) hx (by decide) rfl (Nat.le_of_ble_eq_true rfl) (fun p e s m args below meth c C => ?_)
  show GO p l e _ s m args below meth c w 2 (fI h) (f_X1_leastFor h x1) 0 [(0, .ref (w.2.1 (138))), (1, .int x1)] [] h
  unfold f_X1_leastFor
  refine g_iload_n (pc := 0) C 1 rfl dX1_leastFor_0 rfl ?_
  refine g_bipush (pc := 1) (v := 40) C dX1_leastFor_1 kb_40 ?_
  refine g_callI (pc := 3) (rest := []) (g_runN C mn_RX1_40 (fun x1 hx1 => m_X7_isUpTo hx1) (by decide) rfl rfl (Nat.le_of_ble_eq_true rfl) dX1_leastFor_3) (fun r1 => ?_)
  refine g_if_eq (pc := 6) (tgt := 22) C dX1_leastFor_6 (by decide) (fun hc2 => ?_) (fun hc2 => ?_)
  · refine g_bipush (pc := 22) (v := -9) C dX1_leastFor_22 kb_m9 ?_
    exact g_iret C dX1_leastFor_24
  · refine g_aload_n (pc := 9) C 0 rfl dX1_leastFor_9 rfl ?_
    refine g_get (pc := 10) C so_RX1 0 fl_RX1_11 (v := .ref (w.2.1 (139))) rfl dX1_leastFor_10 ?_
    refine g_iconst (pc := 13) (v := 0) C dX1_leastFor_13 kc_0 ?_
    refine g_aald (pc := 14) (cA := 0) C sr_few rfl rfl dX1_leastFor_14 (fun hb3 => ?_)
    refine g_iload_n (pc := 15) C 1 rfl dX1_leastFor_15 rfl ?_
    refine g_iald (pc := 16) C (siFew hb3) dX1_leastFor_16 (fun hb4 => ?_)
    refine g_ldc (pc := 17) C wd_RX1_20 dX1_leastFor_17 ?_
    refine g_icmp_lt (pc := 19) (tgt := 25) C dX1_leastFor_19 (by decide) (fun hc5 => ?_) (fun hc5 => ?_)
    · refine g_aload_n (pc := 25) C 0 rfl dX1_leastFor_25 rfl ?_
      refine g_get (pc := 26) C so_RX1 0 fl_RX1_11 (v := .ref (w.2.1 (139))) rfl dX1_leastFor_26 ?_
      refine g_iconst (pc := 29) (v := 0) C dX1_leastFor_29 kc_0 ?_
      refine g_aald (pc := 30) (cA := 0) C sr_few rfl rfl dX1_leastFor_30 (fun hb6 => ?_)
      refine g_iload_n (pc := 31) C 1 rfl dX1_leastFor_31 rfl ?_
      refine g_iald (pc := 32) C (siFew hb6) dX1_leastFor_32 (fun hb7 => ?_)
      exact g_iret C dX1_leastFor_33
    · refine g_bipush (pc := 22) (v := -9) C dX1_leastFor_22 kb_m9 ?_
      exact g_iret C dX1_leastFor_24
/-- SnowHouse$Feast.share(I[I)V -/
def f_X1_share_96 (o2 n2 : Nat) (k10 : Int32 → Int32 → TT → Option TT) (x3 : Int32) (x4 : Int32) (h : TT) : Option TT := k10 x3 (x4 + (1 : Int32)) h
set_option maxRecDepth 20000 in
theorem j_X1_share_96 {p : Program} {l : Launch} {e : Env} {R : Room} {s : State} {m : MethodId} {args : Array Value} {below : List Frame} {meth : Method} {c : Code} {w : WK} (C : CX p R s m args meth c w RX1 cX1_share 6 none 1 21)  {o2 n2 : Nat} (ho2 : SI w o2 n2) {k10 : Int32 → Int32 → TT → Option TT} (hk10 : ∀ (x3 : Int32) (x4 : Int32)  (h : TT), GO p l e R s m args below meth c w 6 fV (k10 x3 x4 h) 10 [(0, .ref (w.2.1 (138))), (2, .ref (w.2.1 (o2))), (3, .int x3), (4, .int x4)] [] h) (x3 : Int32) (x4 : Int32)  (h : TT) : GO p l e R s m args below meth c w 6 fV (f_X1_share_96 o2 n2 k10 x3 x4 h) 96 [(0, .ref (w.2.1 (138))), (2, .ref (w.2.1 (o2))), (3, .int x3), (4, .int x4)] [] h := by
  unfold f_X1_share_96
  refine g_iinc (pc := 96) C 3 rfl dX1_share_96 (ki_1 _) (by decide) (lv' := [(4, .int (x4 + (1 : Int32))), (0, .ref (w.2.1 (138))), (2, .ref (w.2.1 (o2))), (3, .int x3)]) rfl ?_
  refine g_goto (pc := 99) (tgt := 10) C dX1_share_99 (by decide) ?_
  refine g_lv (lv' := [(0, .ref (w.2.1 (138))), (2, .ref (w.2.1 (o2))), (3, .int x3), (4, .int (x4 + (1 : Int32)))]) [1, 2, 3, 0] rfl ?_
  exact hk10 x3 (x4 + (1 : Int32)) h
def f_X1_share_31 (o2 n2 : Nat) (k10 : Int32 → Int32 → TT → Option TT) : Nat → Int32 → Int32 → Int32 → TT → Option TT
  | 0, _, _, _, _ => none
  | n + 1, x3, x4, x5, h => (if (40 : Int32) ≤ x5 then f_X1_share_96 o2 n2 k10 x3 x4 h else (if x3 ≤ 0 then f_X1_share_96 o2 n2 k10 x3 x4 h else if inb x4 5 = true then if inb x3 41 = true then if inb (x4 + (1 : Int32)) 5 = true then if inb x3 41 = true then (if (h.1 (140 + x4.toNatClampNeg) x3.toNatClampNeg) = (h.1 (140 + (x4 + (1 : Int32)).toNatClampNeg) x3.toNatClampNeg) then f_X1_share_96 o2 n2 k10 x3 x4 h else if inb x4 n2 = true then if inb x4 n2 = true then nm (wr h o2 x4.toNatClampNeg ((h.1 o2 x4.toNatClampNeg) + (1 : Int32))) fun h15 => if inb x4 4 = true then nm (imax (0 : Int32) (x3 - (h15.1 145 x4.toNatClampNeg))) fun y17 => f_X1_share_31 o2 n2 k10 n y17 x4 (x5 + (1 : Int32)) h15 else none else none else none) else none else none else none else none))
set_option maxRecDepth 20000 in
theorem j_X1_share_31 {p : Program} {l : Launch} {e : Env} {R : Room} {s : State} {m : MethodId} {args : Array Value} {below : List Frame} {meth : Method} {c : Code} {w : WK} (C : CX p R s m args meth c w RX1 cX1_share 6 none 1 21)  {o2 n2 : Nat} (ho2 : SI w o2 n2) {k10 : Int32 → Int32 → TT → Option TT} (hk10 : ∀ (x3 : Int32) (x4 : Int32)  (h : TT), GO p l e R s m args below meth c w 6 fV (k10 x3 x4 h) 10 [(0, .ref (w.2.1 (138))), (2, .ref (w.2.1 (o2))), (3, .int x3), (4, .int x4)] [] h) : ∀ (n : Nat) (x3 : Int32) (x4 : Int32) (x5 : Int32) (h : TT), GO p l e R s m args below meth c w 6 fV (f_X1_share_31 o2 n2 k10 n x3 x4 x5 h) 31 [(0, .ref (w.2.1 (138))), (2, .ref (w.2.1 (o2))), (3, .int x3), (4, .int x4), (5, .int x5)] [] h := by
  intro n
  induction n with
  | zero =>
    intro x3 x4 x5 h
    exact g_none
  | succ n ih =>
    intro x3 x4 x5 h
    rw [f_X1_share_31]
    refine g_iload (pc := 31) C 4 rfl dX1_share_31 ?_
    refine g_bipush (pc := 33) (v := 40) C dX1_share_33 kb_40 ?_
    refine g_icmp_ge (pc := 35) (tgt := 96) C dX1_share_35 (by decide) (fun hc6 => ?_) (fun hc6 => ?_)
    · refine g_lv (lv' := [(0, .ref (w.2.1 (138))), (2, .ref (w.2.1 (o2))), (3, .int x3), (4, .int x4)]) [0, 1, 2, 3] rfl ?_
      exact j_X1_share_96 C ho2 hk10 x3 x4 h
    · refine g_iload_n (pc := 38) C 2 rfl dX1_share_38 rfl ?_
      refine g_if_le (pc := 39) (tgt := 96) C dX1_share_39 (by decide) (fun hc7 => ?_) (fun hc7 => ?_)
      · refine g_lv (lv' := [(0, .ref (w.2.1 (138))), (2, .ref (w.2.1 (o2))), (3, .int x3), (4, .int x4)]) [0, 1, 2, 3] rfl ?_
        exact j_X1_share_96 C ho2 hk10 x3 x4 h
      · refine g_aload_n (pc := 42) C 0 rfl dX1_share_42 rfl ?_
        refine g_get (pc := 43) C so_RX1 0 fl_RX1_11 (v := .ref (w.2.1 (139))) rfl dX1_share_43 ?_
        refine g_iload (pc := 46) C 3 rfl dX1_share_46 ?_
        refine g_aald (pc := 48) (cA := 0) C sr_few rfl rfl dX1_share_48 (fun hb8 => ?_)
        refine g_iload_n (pc := 49) C 2 rfl dX1_share_49 rfl ?_
        refine g_iald (pc := 50) C (siFew hb8) dX1_share_50 (fun hb9 => ?_)
        refine g_aload_n (pc := 51) C 0 rfl dX1_share_51 rfl ?_
        refine g_get (pc := 52) C so_RX1 0 fl_RX1_11 (v := .ref (w.2.1 (139))) rfl dX1_share_52 ?_
        refine g_iload (pc := 55) C 3 rfl dX1_share_55 ?_
        refine g_iconst (pc := 57) (v := 1) C dX1_share_57 kc_1 ?_
        refine g_iadd (pc := 58) C dX1_share_58 ?_
        refine g_aald (pc := 59) (cA := 0) C sr_few rfl rfl dX1_share_59 (fun hb10 => ?_)
        refine g_iload_n (pc := 60) C 2 rfl dX1_share_60 rfl ?_
        refine g_iald (pc := 61) C (siFew hb10) dX1_share_61 (fun hb11 => ?_)
        refine g_icmp_ne (pc := 62) (tgt := 68) C dX1_share_62 (by decide) (fun hc12 => ?_) (fun hc12 => ?_)
        · refine g_goto (pc := 65) (tgt := 96) C dX1_share_65 (by decide) ?_
          refine g_lv (lv' := [(0, .ref (w.2.1 (138))), (2, .ref (w.2.1 (o2))), (3, .int x3), (4, .int x4)]) [0, 1, 2, 3] rfl ?_
          exact j_X1_share_96 C ho2 hk10 x3 x4 h
        · refine g_aload_n (pc := 68) C 1 rfl dX1_share_68 rfl ?_
          refine g_iload (pc := 69) C 3 rfl dX1_share_69 ?_
          refine g_dup2 (pc := 71) C dX1_share_71 rfl rfl ?_
          refine g_iald (pc := 72) C ho2 dX1_share_72 (fun hb13 => ?_)
          refine g_iconst (pc := 73) (v := 1) C dX1_share_73 kc_1 ?_
          refine g_iadd (pc := 74) C dX1_share_74 ?_
          refine g_iast (pc := 75) C ho2 dX1_share_75 (fun hb14 => ?_)
          refine g_nm (fun h15 => ?_)
          refine g_iconst (pc := 76) (v := 0) C dX1_share_76 kc_0 ?_
          refine g_iload_n (pc := 77) C 2 rfl dX1_share_77 rfl ?_
          refine g_aload_n (pc := 78) C 0 rfl dX1_share_78 rfl ?_
          refine g_get (pc := 79) C so_RX1 1 fl_RX1_16 (v := .ref (w.2.1 (145))) rfl dX1_share_79 ?_
          refine g_iload (pc := 82) C 3 rfl dX1_share_82 ?_
          refine g_iald (pc := 84) C si_145 dX1_share_84 (fun hb16 => ?_)
          refine g_isub (pc := 85) C dX1_share_85 ?_
          refine g_max (pc := 86) C wm_RX1_31 wst_max wini_math wco_max (by decide) (by decide) (Nat.le_of_ble_eq_true rfl) dX1_share_86 ?_
          refine g_nmi (fun y17 => ?_)
          refine g_istore_n (pc := 89) C dX1_share_89 rfl (by decide) (lv' := [(3, .int y17), (0, .ref (w.2.1 (138))), (2, .ref (w.2.1 (o2))), (4, .int x4), (5, .int x5)]) rfl ?_
          refine g_iinc (pc := 90) C 4 rfl dX1_share_90 (ki_1 _) (by decide) (lv' := [(5, .int (x5 + (1 : Int32))), (3, .int y17), (0, .ref (w.2.1 (138))), (2, .ref (w.2.1 (o2))), (4, .int x4)]) rfl ?_
          refine g_goto (pc := 93) (tgt := 31) C dX1_share_93 (by decide) ?_
          refine g_lv (lv' := [(0, .ref (w.2.1 (138))), (2, .ref (w.2.1 (o2))), (3, .int y17), (4, .int x4), (5, .int (x5 + (1 : Int32)))]) [2, 3, 1, 4, 0] rfl ?_
          exact ih y17 x4 (x5 + (1 : Int32)) h15
def f_X1_share_10 (o2 n2 : Nat)  : Nat → Int32 → Int32 → TT → Option TT
  | 0, _, _, _ => none
  | n + 1, x3, x4, h => (if (4 : Int32) ≤ x4 then some h else (if (nI n2) ≤ x4 then some h else if inb x4 n2 = true then nm (wr h o2 x4.toNatClampNeg (0 : Int32)) fun h5 => f_X1_share_31 o2 n2 (f_X1_share_10 o2 n2 n) KF x3 x4 (0 : Int32) h5 else none))
set_option maxRecDepth 20000 in
theorem j_X1_share_10 {p : Program} {l : Launch} {e : Env} {R : Room} {s : State} {m : MethodId} {args : Array Value} {below : List Frame} {meth : Method} {c : Code} {w : WK} (C : CX p R s m args meth c w RX1 cX1_share 6 none 1 21)  {o2 n2 : Nat} (ho2 : SI w o2 n2)  : ∀ (n : Nat) (x3 : Int32) (x4 : Int32) (h : TT), GO p l e R s m args below meth c w 6 fV (f_X1_share_10 o2 n2 n x3 x4 h) 10 [(0, .ref (w.2.1 (138))), (2, .ref (w.2.1 (o2))), (3, .int x3), (4, .int x4)] [] h := by
  intro n
  induction n with
  | zero =>
    intro x3 x4 h
    exact g_none
  | succ n ih =>
    intro x3 x4 h
    rw [f_X1_share_10]
    refine g_iload (pc := 10) C 3 rfl dX1_share_10 ?_
    refine g_iconst (pc := 12) (v := 4) C dX1_share_12 kc_4 ?_
    refine g_icmp_ge (pc := 13) (tgt := 102) C dX1_share_13 (by decide) (fun hc2 => ?_) (fun hc2 => ?_)
    · exact g_vret C dX1_share_102
    · refine g_iload (pc := 16) C 3 rfl dX1_share_16 ?_
      refine g_aload_n (pc := 18) C 1 rfl dX1_share_18 rfl ?_
      refine g_ialen (pc := 19) C ho2 dX1_share_19 ?_
      refine g_icmp_ge (pc := 20) (tgt := 102) C dX1_share_20 (by decide) (fun hc3 => ?_) (fun hc3 => ?_)
      · exact g_vret C dX1_share_102
      · refine g_aload_n (pc := 23) C 1 rfl dX1_share_23 rfl ?_
        refine g_iload (pc := 24) C 3 rfl dX1_share_24 ?_
        refine g_iconst (pc := 26) (v := 0) C dX1_share_26 kc_0 ?_
        refine g_iast (pc := 27) C ho2 dX1_share_27 (fun hb4 => ?_)
        refine g_nm (fun h5 => ?_)
        refine g_iconst (pc := 28) (v := 0) C dX1_share_28 kc_0 ?_
        refine g_istore (pc := 29) C dX1_share_29 (by decide) (lv' := [(5, .int (0 : Int32)), (0, .ref (w.2.1 (138))), (2, .ref (w.2.1 (o2))), (3, .int x3), (4, .int x4)]) rfl ?_
        refine g_lv (lv' := [(0, .ref (w.2.1 (138))), (2, .ref (w.2.1 (o2))), (3, .int x3), (4, .int x4), (5, .int (0 : Int32))]) [1, 2, 3, 4, 0] rfl ?_
        exact j_X1_share_31 C ho2 ih KF x3 x4 (0 : Int32) h5
def f_X1_share (h : TT) (x1 : Int32) (o2 n2 : Nat) : Option TT := nm (imin x1 (40 : Int32)) fun y1 => f_X1_share_10 o2 n2 KF y1 (0 : Int32) h
set_option maxRecDepth 20000 in
theorem m_X1_share {l : Launch} {w : WK} {h : TT} {x1 : Int32} {o2 n2 : Nat} {x : TT} (hx : f_X1_share h x1 o2 n2 = some x) (ho2 : SI w o2 n2) : Met l yX1_share (Cond.code yX1_share cX1_share 6 none :: wsG) { frames := 1, cells := 0, slots := 0, locals := 21 } (PG w [.ref (w.2.1 (138)), .int x1, .ref (w.2.1 (o2))] h) (QG w (fV x)) 0 0 (AA w) := by
  refine m_entry (own := RX1) (f := fV) hx (by decide) rfl (Nat.le_of_ble_eq_true rfl) (fun p e s m args below meth c C => ?_)
  show GO p l e _ s m args below meth c w 6 fV (f_X1_share h x1 o2 n2) 0 [(0, .ref (w.2.1 (138))), (1, .int x1), (2, .ref (w.2.1 (o2)))] [] h
  unfold f_X1_share
  refine g_iload_n (pc := 0) C 1 rfl dX1_share_0 rfl ?_
  refine g_bipush (pc := 1) (v := 40) C dX1_share_1 kb_40 ?_
  refine g_min (pc := 3) C wm_RX1_37 wst_min wini_math wco_min (by decide) (by decide) (Nat.le_of_ble_eq_true rfl) dX1_share_3 ?_
  refine g_nmi (fun y1 => ?_)
  refine g_istore_n (pc := 6) C dX1_share_6 rfl (by decide) (lv' := [(3, .int y1), (0, .ref (w.2.1 (138))), (1, .int x1), (2, .ref (w.2.1 (o2)))]) rfl ?_
  refine g_iconst (pc := 7) (v := 0) C dX1_share_7 kc_0 ?_
  refine g_istore (pc := 8) C dX1_share_8 (by decide) (lv' := [(4, .int (0 : Int32)), (3, .int y1), (0, .ref (w.2.1 (138))), (1, .int x1), (2, .ref (w.2.1 (o2)))]) rfl ?_
  refine g_lv (lv' := [(0, .ref (w.2.1 (138))), (2, .ref (w.2.1 (o2))), (3, .int y1), (4, .int (0 : Int32))]) [2, 4, 1, 0] rfl ?_
  exact j_X1_share_10 C ho2 KF y1 (0 : Int32) h
/-- SnowHouse.halls(III)I -/
def f_X7_halls_49    (h : TT) : Option (Int32 × TT) := (f_X7_found h (1 : Int32)).bind fun q9 => some (q9.1, q9.2)
set_option maxRecDepth 20000 in
theorem j_X7_halls_49 {p : Program} {l : Launch} {e : Env} {R : Room} {s : State} {m : MethodId} {args : Array Value} {below : List Frame} {meth : Method} {c : Code} {w : WK} (C : CX p R s m args meth c w RX7 cX7_halls 6 (some .int) 5 119)       (h : TT) : GO p l e R s m args below meth c w 6 fIT (f_X7_halls_49 h) 49 [(0, .ref (w.2.1 (0)))] [] h := by
  unfold f_X7_halls_49
  refine g_aload_n (pc := 49) C 0 rfl dX7_halls_49 rfl ?_
  refine g_iconst (pc := 50) (v := 1) C dX7_halls_50 kc_1 ?_
  refine g_callIT (pc := 51) (rest := []) (g_runV C mv_RX7_109 (fun x1 hx1 => m_X7_found hx1) so_RX7 rfl (by decide) rfl rfl (Nat.le_of_ble_eq_true rfl) dX7_halls_51) (fun q9 => ?_)
  exact g_iretT C dX7_halls_54
def f_X7_halls_150  (k65 : Int32 → Int32 → Int32 → Int32 → TT → Option (Int32 × TT)) (x1 : Int32) (x2 : Int32) (x3 : Int32) (x4 : Int32) (xs0 : Int32) (xs1 : Int32) (h : TT) : Option (Int32 × TT) := if inb x4 4 = true then (f_X1_offer h xs1 xs0 (h.1 (25 + 4 * x4.toNatClampNeg) 2)).bind fun h26 => k65 x1 x2 x3 (x4 + (-1 : Int32)) h26 else none
set_option maxRecDepth 20000 in
theorem j_X7_halls_150 {p : Program} {l : Launch} {e : Env} {R : Room} {s : State} {m : MethodId} {args : Array Value} {below : List Frame} {meth : Method} {c : Code} {w : WK} (C : CX p R s m args meth c w RX7 cX7_halls 6 (some .int) 5 119)    {k65 : Int32 → Int32 → Int32 → Int32 → TT → Option (Int32 × TT)} (hk65 : ∀ (x1 : Int32) (x2 : Int32) (x3 : Int32) (x4 : Int32)  (h : TT), GO p l e R s m args below meth c w 6 fIT (k65 x1 x2 x3 x4 h) 65 [(0, .ref (w.2.1 (0))), (1, .int x1), (2, .int x2), (3, .int x3), (4, .int x4)] [] h) (x1 : Int32) (x2 : Int32) (x3 : Int32) (x4 : Int32) (xs0 : Int32) (xs1 : Int32)  (h : TT) : GO p l e R s m args below meth c w 6 fIT (f_X7_halls_150 k65 x1 x2 x3 x4 xs0 xs1 h) 150 [(0, .ref (w.2.1 (0))), (1, .int x1), (2, .int x2), (3, .int x3), (4, .int x4)] [.int xs0, .int xs1, .ref (w.2.1 (138))] h := by
  unfold f_X7_halls_150
  refine g_aload_n (pc := 150) C 0 rfl dX7_halls_150 rfl ?_
  refine g_get (pc := 151) C so_RX7 5 fl_RX7_41 (v := .ref (w.2.1 (24))) rfl dX7_halls_151 ?_
  refine g_iload (pc := 154) C 4 rfl dX7_halls_154 ?_
  refine g_aald (pc := 156) (cA := 0) C sr_plans rfl rfl dX7_halls_156 (fun hb25 => ?_)
  refine g_get (pc := 157) C (so_RX3 (isPl hb25)) 2 fl_RX7_154 (v := .int (h.1 (25 + 4 * x4.toNatClampNeg) 2)) rfl dX7_halls_157 ?_
  refine g_callV (pc := 160) (rest := []) (g_runV C mv_RX7_282 (fun x1 hx1 => m_X1_offer hx1) so_RX1 rfl (by decide) rfl rfl (Nat.le_of_ble_eq_true rfl) dX7_halls_160) (fun h26 => ?_)
  refine g_iinc (pc := 163) C 4 rfl dX7_halls_163 (ki_m1 _) (by decide) (lv' := [(4, .int (x4 + (-1 : Int32))), (0, .ref (w.2.1 (0))), (1, .int x1), (2, .int x2), (3, .int x3)]) rfl ?_
  refine g_goto (pc := 166) (tgt := 65) C dX7_halls_166 (by decide) ?_
  refine g_lv (lv' := [(0, .ref (w.2.1 (0))), (1, .int x1), (2, .int x2), (3, .int x3), (4, .int (x4 + (-1 : Int32)))]) [1, 2, 3, 4, 0] rfl ?_
  exact hk65 x1 x2 x3 (x4 + (-1 : Int32)) h26
def f_X7_halls_125  (k65 : Int32 → Int32 → Int32 → Int32 → TT → Option (Int32 × TT)) (x1 : Int32) (x2 : Int32) (x3 : Int32) (x4 : Int32) (x5 : Int32) (h : TT) : Option (Int32 × TT) := (if x5 = 0 then f_X7_halls_150 k65 x1 x2 x3 x4 (0 : Int32) x4 h else if inb x4 4 = true then (f_X3_sleepers h (25 + 4 * x4.toNatClampNeg)).bind fun r28 => f_X7_halls_150 k65 x1 x2 x3 x4 r28 x4 h else none)
set_option maxRecDepth 20000 in
theorem j_X7_halls_125 {p : Program} {l : Launch} {e : Env} {R : Room} {s : State} {m : MethodId} {args : Array Value} {below : List Frame} {meth : Method} {c : Code} {w : WK} (C : CX p R s m args meth c w RX7 cX7_halls 6 (some .int) 5 119)    {k65 : Int32 → Int32 → Int32 → Int32 → TT → Option (Int32 × TT)} (hk65 : ∀ (x1 : Int32) (x2 : Int32) (x3 : Int32) (x4 : Int32)  (h : TT), GO p l e R s m args below meth c w 6 fIT (k65 x1 x2 x3 x4 h) 65 [(0, .ref (w.2.1 (0))), (1, .int x1), (2, .int x2), (3, .int x3), (4, .int x4)] [] h) (x1 : Int32) (x2 : Int32) (x3 : Int32) (x4 : Int32) (x5 : Int32)  (h : TT) : GO p l e R s m args below meth c w 6 fIT (f_X7_halls_125 k65 x1 x2 x3 x4 x5 h) 125 [(0, .ref (w.2.1 (0))), (1, .int x1), (2, .int x2), (3, .int x3), (4, .int x4), (5, .int x5)] [] h := by
  unfold f_X7_halls_125
  refine g_aload_n (pc := 125) C 0 rfl dX7_halls_125 rfl ?_
  refine g_get (pc := 126) C so_RX7 12 fl_RX7_84 (v := .ref (w.2.1 (138))) rfl dX7_halls_126 ?_
  refine g_iload (pc := 129) C 4 rfl dX7_halls_129 ?_
  refine g_iload (pc := 131) C 5 rfl dX7_halls_131 ?_
  refine g_if_eq (pc := 133) (tgt := 149) C dX7_halls_133 (by decide) (fun hc24 => ?_) (fun hc24 => ?_)
  · refine g_iconst (pc := 149) (v := 0) C dX7_halls_149 kc_0 ?_
    refine g_lv (lv' := [(0, .ref (w.2.1 (0))), (1, .int x1), (2, .int x2), (3, .int x3), (4, .int x4)]) [0, 1, 2, 3, 4] rfl ?_
    exact j_X7_halls_150 C hk65 x1 x2 x3 x4 (0 : Int32) x4 h
  · refine g_aload_n (pc := 136) C 0 rfl dX7_halls_136 rfl ?_
    refine g_get (pc := 137) C so_RX7 5 fl_RX7_41 (v := .ref (w.2.1 (24))) rfl dX7_halls_137 ?_
    refine g_iload (pc := 140) C 4 rfl dX7_halls_140 ?_
    refine g_aald (pc := 142) (cA := 0) C sr_plans rfl rfl dX7_halls_142 (fun hb27 => ?_)
    refine g_callI (pc := 143) (rest := [.int x4, .ref (w.2.1 (138))]) (g_runV C mv_RX7_273 (fun x1 hx1 => m_X3_sleepers hx1 (isPl hb27)) (so_RX3 (isPl hb27)) rfl (by decide) rfl rfl (Nat.le_of_ble_eq_true rfl) dX7_halls_143) (fun r28 => ?_)
    refine g_goto (pc := 146) (tgt := 150) C dX7_halls_146 (by decide) ?_
    refine g_lv (lv' := [(0, .ref (w.2.1 (0))), (1, .int x1), (2, .int x2), (3, .int x3), (4, .int x4)]) [0, 1, 2, 3, 4] rfl ?_
    exact j_X7_halls_150 C hk65 x1 x2 x3 x4 r28 x4 h
def f_X7_halls_123  (k65 : Int32 → Int32 → Int32 → Int32 → TT → Option (Int32 × TT)) (x1 : Int32) (x2 : Int32) (x3 : Int32) (x4 : Int32) (xs0 : Int32) (h : TT) : Option (Int32 × TT) := f_X7_halls_125 k65 x1 x2 x3 x4 xs0 h
set_option maxRecDepth 20000 in
theorem j_X7_halls_123 {p : Program} {l : Launch} {e : Env} {R : Room} {s : State} {m : MethodId} {args : Array Value} {below : List Frame} {meth : Method} {c : Code} {w : WK} (C : CX p R s m args meth c w RX7 cX7_halls 6 (some .int) 5 119)    {k65 : Int32 → Int32 → Int32 → Int32 → TT → Option (Int32 × TT)} (hk65 : ∀ (x1 : Int32) (x2 : Int32) (x3 : Int32) (x4 : Int32)  (h : TT), GO p l e R s m args below meth c w 6 fIT (k65 x1 x2 x3 x4 h) 65 [(0, .ref (w.2.1 (0))), (1, .int x1), (2, .int x2), (3, .int x3), (4, .int x4)] [] h) (x1 : Int32) (x2 : Int32) (x3 : Int32) (x4 : Int32) (xs0 : Int32)  (h : TT) : GO p l e R s m args below meth c w 6 fIT (f_X7_halls_123 k65 x1 x2 x3 x4 xs0 h) 123 [(0, .ref (w.2.1 (0))), (1, .int x1), (2, .int x2), (3, .int x3), (4, .int x4)] [.int xs0] h := by
  unfold f_X7_halls_123
  refine g_istore (pc := 123) C dX7_halls_123 (by decide) (lv' := [(5, .int xs0), (0, .ref (w.2.1 (0))), (1, .int x1), (2, .int x2), (3, .int x3), (4, .int x4)]) rfl ?_
  refine g_lv (lv' := [(0, .ref (w.2.1 (0))), (1, .int x1), (2, .int x2), (3, .int x3), (4, .int x4), (5, .int xs0)]) [1, 2, 3, 4, 5, 0] rfl ?_
  exact j_X7_halls_125 C hk65 x1 x2 x3 x4 xs0 h
def f_X7_halls_65   : Nat → Int32 → Int32 → Int32 → Int32 → TT → Option (Int32 × TT)
  | 0, _, _, _, _, _ => none
  | n + 1, x1, x2, x3, x4, h => (if x4 < 0 then (f_X1_leastFor h x2).bind fun r14 => (if r14 = (-9 : Int32) then some ((-9 : Int32), h) else if inb x3 6 = true then (f_J7_fill_53178 h (2 + x3.toNatClampNeg) 60 (0 : Int32)).bind fun h17 => if inb x3 6 = true then nm (wr h17 8 x3.toNatClampNeg (4 : Int32)) fun h19 => if inb x3 6 = true then (f_X1_share h19 x2 (2 + x3.toNatClampNeg) 60).bind fun h21 => some (r14, h21) else none else none else none) else if inb x4 4 = true then (if (h.1 (25 + 4 * x4.toNatClampNeg) 0) = 0 then f_X7_halls_125 (f_X7_halls_65 n) x1 x2 x3 x4 (0 : Int32) h else if inb x1 4 = true then if inb x4 4 = true then (f_X0_begin h 110 (16 + 2 * x1.toNatClampNeg) (25 + 4 * x4.toNatClampNeg) (1 : Int32)).bind fun h31 => (f_X0_raise h31 110 (0 : Int32)).bind fun q32 => (if q32.1 = 0 then f_X7_halls_123 (f_X7_halls_65 n) x1 x2 x3 x4 (1 : Int32) q32.2 else f_X7_halls_123 (f_X7_halls_65 n) x1 x2 x3 x4 (0 : Int32) q32.2) else none else none) else none)
set_option maxRecDepth 20000 in
theorem j_X7_halls_65 {p : Program} {l : Launch} {e : Env} {R : Room} {s : State} {m : MethodId} {args : Array Value} {below : List Frame} {meth : Method} {c : Code} {w : WK} (C : CX p R s m args meth c w RX7 cX7_halls 6 (some .int) 5 119)     : ∀ (n : Nat) (x1 : Int32) (x2 : Int32) (x3 : Int32) (x4 : Int32) (h : TT), GO p l e R s m args below meth c w 6 fIT (f_X7_halls_65 n x1 x2 x3 x4 h) 65 [(0, .ref (w.2.1 (0))), (1, .int x1), (2, .int x2), (3, .int x3), (4, .int x4)] [] h := by
  intro n
  induction n with
  | zero =>
    intro x1 x2 x3 x4 h
    exact g_none
  | succ n ih =>
    intro x1 x2 x3 x4 h
    rw [f_X7_halls_65]
    refine g_iload (pc := 65) C 4 rfl dX7_halls_65 ?_
    refine g_if_lt (pc := 67) (tgt := 169) C dX7_halls_67 (by decide) (fun hc13 => ?_) (fun hc13 => ?_)
    · refine g_aload_n (pc := 169) C 0 rfl dX7_halls_169 rfl ?_
      refine g_get (pc := 170) C so_RX7 12 fl_RX7_84 (v := .ref (w.2.1 (138))) rfl dX7_halls_170 ?_
      refine g_iload_n (pc := 173) C 2 rfl dX7_halls_173 rfl ?_
      refine g_callI (pc := 174) (rest := []) (g_runV C mv_RX7_286 (fun x1 hx1 => m_X1_leastFor hx1) so_RX1 rfl (by decide) rfl rfl (Nat.le_of_ble_eq_true rfl) dX7_halls_174) (fun r14 => ?_)
      refine g_istore (pc := 177) C dX7_halls_177 (by decide) (lv' := [(4, .int r14), (0, .ref (w.2.1 (0))), (1, .int x1), (2, .int x2), (3, .int x3)]) rfl ?_
      refine g_iload (pc := 179) C 0 rfl dX7_halls_179 ?_
      refine g_bipush (pc := 181) (v := -9) C dX7_halls_181 kb_m9 ?_
      refine g_icmp_ne (pc := 183) (tgt := 189) C dX7_halls_183 (by decide) (fun hc15 => ?_) (fun hc15 => ?_)
      · refine g_bipush (pc := 186) (v := -9) C dX7_halls_186 kb_m9 ?_
        exact g_iretT C dX7_halls_188
      · refine g_aload_n (pc := 189) C 1 rfl dX7_halls_189 rfl ?_
        refine g_get (pc := 190) C so_RX7 0 fl_RX7_11 (v := .ref (w.2.1 (1))) rfl dX7_halls_190 ?_
        refine g_iload_n (pc := 193) C 4 rfl dX7_halls_193 rfl ?_
        refine g_aald (pc := 194) (cA := 0) C sr_rows rfl rfl dX7_halls_194 (fun hb16 => ?_)
        refine g_iconst (pc := 195) (v := 0) C dX7_halls_195 kc_0 ?_
        refine g_callV (pc := 196) (rest := []) (g_runS C ms_RX7_18 (fun x1 hx1 => m_J7_fill_53178 hx1 (siRow hb16)) (by decide) rfl rfl (Nat.le_of_ble_eq_true rfl) dX7_halls_196) (fun h17 => ?_)
        refine g_aload_n (pc := 199) C 1 rfl dX7_halls_199 rfl ?_
        refine g_get (pc := 200) C so_RX7 1 fl_RX7_14 (v := .ref (w.2.1 (8))) rfl dX7_halls_200 ?_
        refine g_iload_n (pc := 203) C 4 rfl dX7_halls_203 rfl ?_
        refine g_iconst (pc := 204) (v := 4) C dX7_halls_204 kc_4 ?_
        refine g_iast (pc := 205) C si_8 dX7_halls_205 (fun hb18 => ?_)
        refine g_nm (fun h19 => ?_)
        refine g_aload_n (pc := 206) C 1 rfl dX7_halls_206 rfl ?_
        refine g_get (pc := 207) C so_RX7 12 fl_RX7_84 (v := .ref (w.2.1 (138))) rfl dX7_halls_207 ?_
        refine g_iload_n (pc := 210) C 3 rfl dX7_halls_210 rfl ?_
        refine g_aload_n (pc := 211) C 1 rfl dX7_halls_211 rfl ?_
        refine g_get (pc := 212) C so_RX7 0 fl_RX7_11 (v := .ref (w.2.1 (1))) rfl dX7_halls_212 ?_
        refine g_iload_n (pc := 215) C 4 rfl dX7_halls_215 rfl ?_
        refine g_aald (pc := 216) (cA := 0) C sr_rows rfl rfl dX7_halls_216 (fun hb20 => ?_)
        refine g_callV (pc := 217) (rest := []) (g_runV C mv_RX7_289 (fun x1 hx1 => m_X1_share hx1 (siRow hb20)) so_RX1 rfl (by decide) rfl rfl (Nat.le_of_ble_eq_true rfl) dX7_halls_217) (fun h21 => ?_)
        refine g_iload (pc := 220) C 0 rfl dX7_halls_220 ?_
        exact g_iretT C dX7_halls_222
    · refine g_iconst (pc := 70) (v := 0) C dX7_halls_70 kc_0 ?_
      refine g_istore (pc := 71) C dX7_halls_71 (by decide) (lv' := [(5, .int (0 : Int32)), (0, .ref (w.2.1 (0))), (1, .int x1), (2, .int x2), (3, .int x3), (4, .int x4)]) rfl ?_
      refine g_aload_n (pc := 73) C 1 rfl dX7_halls_73 rfl ?_
      refine g_get (pc := 74) C so_RX7 5 fl_RX7_41 (v := .ref (w.2.1 (24))) rfl dX7_halls_74 ?_
      refine g_iload (pc := 77) C 5 rfl dX7_halls_77 ?_
      refine g_aald (pc := 79) (cA := 0) C sr_plans rfl rfl dX7_halls_79 (fun hb22 => ?_)
      refine g_get (pc := 80) C (so_RX3 (isPl hb22)) 0 fl_RX7_164 (v := .int (h.1 (25 + 4 * x4.toNatClampNeg) 0)) rfl dX7_halls_80 ?_
      refine g_if_eq (pc := 83) (tgt := 125) C dX7_halls_83 (by decide) (fun hc23 => ?_) (fun hc23 => ?_)
      · refine g_lv (lv' := [(0, .ref (w.2.1 (0))), (1, .int x1), (2, .int x2), (3, .int x3), (4, .int x4), (5, .int (0 : Int32))]) [1, 2, 3, 4, 5, 0] rfl ?_
        exact j_X7_halls_125 C ih x1 x2 x3 x4 (0 : Int32) h
      · refine g_aload_n (pc := 86) C 1 rfl dX7_halls_86 rfl ?_
        refine g_get (pc := 87) C so_RX7 8 fl_RX7_57 (v := .ref (w.2.1 (110))) rfl dX7_halls_87 ?_
        refine g_aload_n (pc := 90) C 1 rfl dX7_halls_90 rfl ?_
        refine g_get (pc := 91) C so_RX7 4 fl_RX7_34 (v := .ref (w.2.1 (15))) rfl dX7_halls_91 ?_
        refine g_iload_n (pc := 94) C 2 rfl dX7_halls_94 rfl ?_
        refine g_aald (pc := 95) (cA := 0) C sr_snows rfl rfl dX7_halls_95 (fun hb29 => ?_)
        refine g_aload_n (pc := 96) C 1 rfl dX7_halls_96 rfl ?_
        refine g_get (pc := 97) C so_RX7 5 fl_RX7_41 (v := .ref (w.2.1 (24))) rfl dX7_halls_97 ?_
        refine g_iload (pc := 100) C 5 rfl dX7_halls_100 ?_
        refine g_aald (pc := 102) (cA := 0) C sr_plans rfl rfl dX7_halls_102 (fun hb30 => ?_)
        refine g_iconst (pc := 103) (v := 1) C dX7_halls_103 kc_1 ?_
        refine g_callV (pc := 104) (rest := []) (g_runV C mv_RX7_181 (fun x1 hx1 => m_X0_begin hx1 isB110 (isSn hb29) (isPl hb30)) (so_RX0 isB110) rfl (by decide) rfl rfl (Nat.le_of_ble_eq_true rfl) dX7_halls_104) (fun h31 => ?_)
        refine g_aload_n (pc := 107) C 1 rfl dX7_halls_107 rfl ?_
        refine g_get (pc := 108) C so_RX7 8 fl_RX7_57 (v := .ref (w.2.1 (110))) rfl dX7_halls_108 ?_
        refine g_iconst (pc := 111) (v := 0) C dX7_halls_111 kc_0 ?_
        refine g_callIT (pc := 112) (rest := []) (g_runV C mv_RX7_237 (fun x1 hx1 => m_X0_raise hx1 isB110) (so_RX0 isB110) rfl (by decide) rfl rfl (Nat.le_of_ble_eq_true rfl) dX7_halls_112) (fun q32 => ?_)
        refine g_if_ne (pc := 115) (tgt := 122) C dX7_halls_115 (by decide) (fun hc33 => ?_) (fun hc33 => ?_)
        · refine g_iconst (pc := 118) (v := 1) C dX7_halls_118 kc_1 ?_
          refine g_goto (pc := 119) (tgt := 123) C dX7_halls_119 (by decide) ?_
          refine g_lv (lv' := [(0, .ref (w.2.1 (0))), (1, .int x1), (2, .int x2), (3, .int x3), (4, .int x4)]) [1, 2, 3, 4, 5] rfl ?_
          exact j_X7_halls_123 C ih x1 x2 x3 x4 (1 : Int32) q32.2
        · refine g_iconst (pc := 122) (v := 0) C dX7_halls_122 kc_0 ?_
          refine g_lv (lv' := [(0, .ref (w.2.1 (0))), (1, .int x1), (2, .int x2), (3, .int x3), (4, .int x4)]) [1, 2, 3, 4, 5] rfl ?_
          exact j_X7_halls_123 C ih x1 x2 x3 x4 (0 : Int32) q32.2
def f_X7_halls (h : TT) (x1 : Int32) (x2 : Int32) (x3 : Int32) : Option (Int32 × TT) := (f_X7_isBelow h x1 (4 : Int32)).bind fun r1 => (if r1 = 0 then some ((-1 : Int32), h) else (if x2 < (1 : Int32) then some ((-1 : Int32), h) else (if (40 : Int32) < x2 then some ((-1 : Int32), h) else (f_X7_isBelow h x3 (6 : Int32)).bind fun r5 => (if r5 = 0 then some ((-1 : Int32), h) else if inb x1 4 = true then (if (h.1 (16 + 2 * x1.toNatClampNeg) 0) = 0 then f_X7_halls_49 h else (f_X7_plansThere h).bind fun r10 => (if r10 = 0 then f_X7_halls_49 h else (f_X1_clear h).bind fun h12 => f_X7_halls_65 KF x1 x2 x3 (3 : Int32) h12)) else none))))
set_option maxRecDepth 20000 in
theorem m_X7_halls {l : Launch} {w : WK} {h : TT} {x1 : Int32} {x2 : Int32} {x3 : Int32} {x : (Int32 × TT)} (hx : f_X7_halls h x1 x2 x3 = some x)  : Met l yX7_halls (Cond.code yX7_halls cX7_halls 6 (some .int) :: wsG) { frames := 5, cells := 0, slots := 0, locals := 119 } (PG w [.ref (w.2.1 (0)), .int x1, .int x2, .int x3] h) (QG w (fIT x)) 0 0 (AA w) := by
  refine m_entry (own := RX7) (f := fIT) hx (by decide) rfl (Nat.le_of_ble_eq_true rfl) (fun p e s m args below meth c C => ?_)
  show GO p l e _ s m args below meth c w 6 fIT (f_X7_halls h x1 x2 x3) 0 [(0, .ref (w.2.1 (0))), (1, .int x1), (2, .int x2), (3, .int x3)] [] h
  unfold f_X7_halls
  refine g_iload_n (pc := 0) C 1 rfl dX7_halls_0 rfl ?_
  refine g_iconst (pc := 1) (v := 4) C dX7_halls_1 kc_4 ?_
  refine g_callI (pc := 2) (rest := []) (g_runS C ms_RX7_105 (fun x1 hx1 => m_X7_isBelow hx1) (by decide) rfl rfl (Nat.le_of_ble_eq_true rfl) dX7_halls_2) (fun r1 => ?_)
  refine g_if_eq (pc := 5) (tgt := 28) C dX7_halls_5 (by decide) (fun hc2 => ?_) (fun hc2 => ?_)
  · refine g_iconst (pc := 28) (v := -1) C dX7_halls_28 kc_m1 ?_
    exact g_iretT C dX7_halls_29
  · refine g_iload_n (pc := 8) C 2 rfl dX7_halls_8 rfl ?_
    refine g_iconst (pc := 9) (v := 1) C dX7_halls_9 kc_1 ?_
    refine g_icmp_lt (pc := 10) (tgt := 28) C dX7_halls_10 (by decide) (fun hc3 => ?_) (fun hc3 => ?_)
    · refine g_iconst (pc := 28) (v := -1) C dX7_halls_28 kc_m1 ?_
      exact g_iretT C dX7_halls_29
    · refine g_iload_n (pc := 13) C 2 rfl dX7_halls_13 rfl ?_
      refine g_bipush (pc := 14) (v := 40) C dX7_halls_14 kb_40 ?_
      refine g_icmp_gt (pc := 16) (tgt := 28) C dX7_halls_16 (by decide) (fun hc4 => ?_) (fun hc4 => ?_)
      · refine g_iconst (pc := 28) (v := -1) C dX7_halls_28 kc_m1 ?_
        exact g_iretT C dX7_halls_29
      · refine g_iload_n (pc := 19) C 3 rfl dX7_halls_19 rfl ?_
        refine g_bipush (pc := 20) (v := 6) C dX7_halls_20 kb_6 ?_
        refine g_callI (pc := 22) (rest := []) (g_runS C ms_RX7_105 (fun x1 hx1 => m_X7_isBelow hx1) (by decide) rfl rfl (Nat.le_of_ble_eq_true rfl) dX7_halls_22) (fun r5 => ?_)
        refine g_if_ne (pc := 25) (tgt := 30) C dX7_halls_25 (by decide) (fun hc6 => ?_) (fun hc6 => ?_)
        · refine g_iconst (pc := 28) (v := -1) C dX7_halls_28 kc_m1 ?_
          exact g_iretT C dX7_halls_29
        · refine g_aload_n (pc := 30) C 0 rfl dX7_halls_30 rfl ?_
          refine g_get (pc := 31) C so_RX7 4 fl_RX7_34 (v := .ref (w.2.1 (15))) rfl dX7_halls_31 ?_
          refine g_iload_n (pc := 34) C 1 rfl dX7_halls_34 rfl ?_
          refine g_aald (pc := 35) (cA := 0) C sr_snows rfl rfl dX7_halls_35 (fun hb7 => ?_)
          refine g_get (pc := 36) C (so_RX5 (isSn hb7)) 0 fl_RX7_157 (v := .int (h.1 (16 + 2 * x1.toNatClampNeg) 0)) rfl dX7_halls_36 ?_
          refine g_if_eq (pc := 39) (tgt := 49) C dX7_halls_39 (by decide) (fun hc8 => ?_) (fun hc8 => ?_)
          · refine g_lv (lv' := [(0, .ref (w.2.1 (0)))]) [0] rfl ?_
            exact j_X7_halls_49 C h
          · refine g_aload_n (pc := 42) C 0 rfl dX7_halls_42 rfl ?_
            refine g_callI (pc := 43) (rest := []) (g_runV C mv_RX7_270 (fun x1 hx1 => m_X7_plansThere hx1) so_RX7 rfl (by decide) rfl rfl (Nat.le_of_ble_eq_true rfl) dX7_halls_43) (fun r10 => ?_)
            refine g_if_ne (pc := 46) (tgt := 55) C dX7_halls_46 (by decide) (fun hc11 => ?_) (fun hc11 => ?_)
            · refine g_lv (lv' := [(0, .ref (w.2.1 (0)))]) [0] rfl ?_
              exact j_X7_halls_49 C h
            · refine g_aload_n (pc := 55) C 0 rfl dX7_halls_55 rfl ?_
              refine g_get (pc := 56) C so_RX7 12 fl_RX7_84 (v := .ref (w.2.1 (138))) rfl dX7_halls_56 ?_
              refine g_callV (pc := 59) (rest := []) (g_runV C mv_RX7_279 (fun x1 hx1 => m_X1_clear hx1) so_RX1 rfl (by decide) rfl rfl (Nat.le_of_ble_eq_true rfl) dX7_halls_59) (fun h12 => ?_)
              refine g_iconst (pc := 62) (v := 3) C dX7_halls_62 kc_3 ?_
              refine g_istore (pc := 63) C dX7_halls_63 (by decide) (lv' := [(4, .int (3 : Int32)), (0, .ref (w.2.1 (0))), (1, .int x1), (2, .int x2), (3, .int x3)]) rfl ?_
              refine g_lv (lv' := [(0, .ref (w.2.1 (0))), (1, .int x1), (2, .int x2), (3, .int x3), (4, .int (3 : Int32))]) [1, 2, 3, 4, 0] rfl ?_
              exact j_X7_halls_65 C KF x1 x2 x3 (3 : Int32) h12
/-- SnowHouse.quarry(I)I -/
def f_X7_quarry (h : TT) (x1 : Int32) : Option (Int32 × TT) := (f_X7_isBelow h x1 (4 : Int32)).bind fun r1 => (if r1 = 0 then some ((-1 : Int32), h) else if inb x1 4 = true then (if (h.1 (25 + 4 * x1.toNatClampNeg) 0) = 0 then (f_X7_found h (1 : Int32)).bind fun q5 => some (q5.1, q5.2) else if inb x1 4 = true then if inb (0 : Int32) 8 = true then if inb x1 4 = true then if inb (0 : Int32) 8 = true then nm (((h.1 (25 + 4 * x1.toNatClampNeg + 2) (0 : Int32).toNatClampNeg) * (h.1 (25 + 4 * x1.toNatClampNeg + 2) (0 : Int32).toNatClampNeg)) / (4 : Int32)) fun y10 => if inb x1 4 = true then nm (wr h 0 13 (imax (0 : Int32) ((h.1 (25 + 4 * x1.toNatClampNeg) 2) - y10))) fun h12 => some (y10, h12) else none else none else none else none else none) else none)
set_option maxRecDepth 20000 in
theorem m_X7_quarry {l : Launch} {w : WK} {h : TT} {x1 : Int32} {x : (Int32 × TT)} (hx : f_X7_quarry h x1 = some x)  : Met l yX7_quarry (Cond.code yX7_quarry cX7_quarry 3 (some .int) :: wsG) { frames := 2, cells := 0, slots := 0, locals := 42 } (PG w [.ref (w.2.1 (0)), .int x1] h) (QG w (fIT x)) 0 0 (AA w) := by
  refine m_entry (own := RX7) (f := fIT) hx (by decide) rfl (Nat.le_of_ble_eq_true rfl) (fun p e s m args below meth c C => ?_)
  show GO p l e _ s m args below meth c w 3 fIT (f_X7_quarry h x1) 0 [(0, .ref (w.2.1 (0))), (1, .int x1)] [] h
  unfold f_X7_quarry
  refine g_iload_n (pc := 0) C 1 rfl dX7_quarry_0 rfl ?_
  refine g_iconst (pc := 1) (v := 4) C dX7_quarry_1 kc_4 ?_
  refine g_callI (pc := 2) (rest := []) (g_runS C ms_RX7_105 (fun x1 hx1 => m_X7_isBelow hx1) (by decide) rfl rfl (Nat.le_of_ble_eq_true rfl) dX7_quarry_2) (fun r1 => ?_)
  refine g_if_ne (pc := 5) (tgt := 10) C dX7_quarry_5 (by decide) (fun hc2 => ?_) (fun hc2 => ?_)
  · refine g_iconst (pc := 8) (v := -1) C dX7_quarry_8 kc_m1 ?_
    exact g_iretT C dX7_quarry_9
  · refine g_aload_n (pc := 10) C 0 rfl dX7_quarry_10 rfl ?_
    refine g_get (pc := 11) C so_RX7 5 fl_RX7_41 (v := .ref (w.2.1 (24))) rfl dX7_quarry_11 ?_
    refine g_iload_n (pc := 14) C 1 rfl dX7_quarry_14 rfl ?_
    refine g_aald (pc := 15) (cA := 0) C sr_plans rfl rfl dX7_quarry_15 (fun hb3 => ?_)
    refine g_get (pc := 16) C (so_RX3 (isPl hb3)) 0 fl_RX7_164 (v := .int (h.1 (25 + 4 * x1.toNatClampNeg) 0)) rfl dX7_quarry_16 ?_
    refine g_if_ne (pc := 19) (tgt := 28) C dX7_quarry_19 (by decide) (fun hc4 => ?_) (fun hc4 => ?_)
    · refine g_aload_n (pc := 22) C 0 rfl dX7_quarry_22 rfl ?_
      refine g_iconst (pc := 23) (v := 1) C dX7_quarry_23 kc_1 ?_
      refine g_callIT (pc := 24) (rest := []) (g_runV C mv_RX7_109 (fun x1 hx1 => m_X7_found hx1) so_RX7 rfl (by decide) rfl rfl (Nat.le_of_ble_eq_true rfl) dX7_quarry_24) (fun q5 => ?_)
      exact g_iretT C dX7_quarry_27
    · refine g_aload_n (pc := 28) C 0 rfl dX7_quarry_28 rfl ?_
      refine g_get (pc := 29) C so_RX7 5 fl_RX7_41 (v := .ref (w.2.1 (24))) rfl dX7_quarry_29 ?_
      refine g_iload_n (pc := 32) C 1 rfl dX7_quarry_32 rfl ?_
      refine g_aald (pc := 33) (cA := 0) C sr_plans rfl rfl dX7_quarry_33 (fun hb6 => ?_)
      refine g_get (pc := 34) C (so_RX3 (isPl hb6)) 5 fl_RX7_217 (v := .ref (w.2.1 (25 + 4 * x1.toNatClampNeg + 2))) rfl dX7_quarry_34 ?_
      refine g_iconst (pc := 37) (v := 0) C dX7_quarry_37 kc_0 ?_
      refine g_iald (pc := 38) C (siP2 (isPl hb6)) dX7_quarry_38 (fun hb7 => ?_)
      refine g_aload_n (pc := 39) C 0 rfl dX7_quarry_39 rfl ?_
      refine g_get (pc := 40) C so_RX7 5 fl_RX7_41 (v := .ref (w.2.1 (24))) rfl dX7_quarry_40 ?_
      refine g_iload_n (pc := 43) C 1 rfl dX7_quarry_43 rfl ?_
      refine g_aald (pc := 44) (cA := 0) C sr_plans rfl rfl dX7_quarry_44 (fun hb8 => ?_)
      refine g_get (pc := 45) C (so_RX3 (isPl hb8)) 5 fl_RX7_217 (v := .ref (w.2.1 (25 + 4 * x1.toNatClampNeg + 2))) rfl dX7_quarry_45 ?_
      refine g_iconst (pc := 48) (v := 0) C dX7_quarry_48 kc_0 ?_
      refine g_iald (pc := 49) C (siP2 (isPl hb8)) dX7_quarry_49 (fun hb9 => ?_)
      refine g_imul (pc := 50) C dX7_quarry_50 ?_
      refine g_iconst (pc := 51) (v := 4) C dX7_quarry_51 kc_4 ?_
      refine g_idiv (pc := 52) C dX7_quarry_52 (by decide) ?_
      refine g_nmi (fun y10 => ?_)
      refine g_istore_n (pc := 53) C dX7_quarry_53 rfl (by decide) (lv' := [(2, .int y10), (0, .ref (w.2.1 (0))), (1, .int x1)]) rfl ?_
      refine g_aload_n (pc := 54) C 1 rfl dX7_quarry_54 rfl ?_
      refine g_iconst (pc := 55) (v := 0) C dX7_quarry_55 kc_0 ?_
      refine g_aload_n (pc := 56) C 1 rfl dX7_quarry_56 rfl ?_
      refine g_get (pc := 57) C so_RX7 5 fl_RX7_41 (v := .ref (w.2.1 (24))) rfl dX7_quarry_57 ?_
      refine g_iload_n (pc := 60) C 2 rfl dX7_quarry_60 rfl ?_
      refine g_aald (pc := 61) (cA := 0) C sr_plans rfl rfl dX7_quarry_61 (fun hb11 => ?_)
      refine g_get (pc := 62) C (so_RX3 (isPl hb11)) 2 fl_RX7_154 (v := .int (h.1 (25 + 4 * x1.toNatClampNeg) 2)) rfl dX7_quarry_62 ?_
      refine g_iload_n (pc := 65) C 0 rfl dX7_quarry_65 rfl ?_
      refine g_isub (pc := 66) C dX7_quarry_66 ?_
      refine g_max (pc := 67) C wm_RX7_293 wst_max wini_math wco_max (by decide) (by decide) (Nat.le_of_ble_eq_true rfl) dX7_quarry_67 ?_
      refine g_putI (pc := 70) C so_RX7 13 fp_RX7_88 (se_RX7_13 _) rfl rfl (sl_RX7_13) dX7_quarry_70 ?_
      refine g_nm (fun h12 => ?_)
      refine g_iload_n (pc := 73) C 0 rfl dX7_quarry_73 rfl ?_
      exact g_iretT C dX7_quarry_74
