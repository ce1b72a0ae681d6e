/-- SnowHouseModel.itemOf(I)I -/
def f_X8_itemOf (h : TT) (x0 : Int32) : Option Int32 := (if x0 = (103 : Int32) then some (0 : Int32) else (if x0 = (114 : Int32) then some (1 : Int32) else (if x0 = (99 : Int32) then some (2 : Int32) else (if x0 = (119 : Int32) then some (3 : Int32) else some (-9 : Int32)))))
set_option maxRecDepth 20000 in
theorem m_X8_itemOf {l : Launch} {w : WK} {h : TT} {x0 : Int32} {x : Int32} (hx : f_X8_itemOf h x0 = some x)  : Met l yX8_itemOf (Cond.code yX8_itemOf cX8_itemOf 1 (some .int) :: wsG) { frames := 0, cells := 0, slots := 0, locals := 0 } (PG w [.int x0] h) (QG w ((fI h) x)) 0 0 (AA w) := by
  refine m_entry (own := RX8) (f := (fI h)) hx (by decide) rfl (Nat.le_of_ble_eq_true rfl) (fun p e s m args below meth c C => ?_)
  show GO p l e _ s m args below meth c w 1 (fI h) (f_X8_itemOf h x0) 0 [(0, .int x0)] [] h
  unfold f_X8_itemOf
  refine g_iload_n (pc := 0) C 0 rfl dX8_itemOf_0 rfl ?_
  refine g_bipush (pc := 1) (v := 103) C dX8_itemOf_1 kb_103 ?_
  refine g_icmp_ne (pc := 3) (tgt := 10) C dX8_itemOf_3 (by decide) (fun hc1 => ?_) (fun hc1 => ?_)
  · refine g_iconst (pc := 6) (v := 0) C dX8_itemOf_6 kc_0 ?_
    refine g_goto (pc := 7) (tgt := 42) C dX8_itemOf_7 (by decide) ?_
    exact g_iret C dX8_itemOf_42
  · refine g_iload_n (pc := 10) C 0 rfl dX8_itemOf_10 rfl ?_
    refine g_bipush (pc := 11) (v := 114) C dX8_itemOf_11 kb_114 ?_
    refine g_icmp_ne (pc := 13) (tgt := 20) C dX8_itemOf_13 (by decide) (fun hc2 => ?_) (fun hc2 => ?_)
    · refine g_iconst (pc := 16) (v := 1) C dX8_itemOf_16 kc_1 ?_
      refine g_goto (pc := 17) (tgt := 42) C dX8_itemOf_17 (by decide) ?_
      exact g_iret C dX8_itemOf_42
    · refine g_iload_n (pc := 20) C 0 rfl dX8_itemOf_20 rfl ?_
      refine g_bipush (pc := 21) (v := 99) C dX8_itemOf_21 kb_99 ?_
      refine g_icmp_ne (pc := 23) (tgt := 30) C dX8_itemOf_23 (by decide) (fun hc3 => ?_) (fun hc3 => ?_)
      · refine g_iconst (pc := 26) (v := 2) C dX8_itemOf_26 kc_2 ?_
        refine g_goto (pc := 27) (tgt := 42) C dX8_itemOf_27 (by decide) ?_
        exact g_iret C dX8_itemOf_42
      · refine g_iload_n (pc := 30) C 0 rfl dX8_itemOf_30 rfl ?_
        refine g_bipush (pc := 31) (v := 119) C dX8_itemOf_31 kb_119 ?_
        refine g_icmp_ne (pc := 33) (tgt := 40) C dX8_itemOf_33 (by decide) (fun hc4 => ?_) (fun hc4 => ?_)
        · refine g_iconst (pc := 36) (v := 3) C dX8_itemOf_36 kc_3 ?_
          refine g_goto (pc := 37) (tgt := 42) C dX8_itemOf_37 (by decide) ?_
          exact g_iret C dX8_itemOf_42
        · refine g_bipush (pc := 40) (v := -9) C dX8_itemOf_40 kb_m9 ?_
          exact g_iret C dX8_itemOf_42
/-- SnowHouseModel.snowFault(I)I -/
def f_X8_snowFault_182  (k40 : Int32 → TT → Option (Int32 × TT)) (x1 : Int32) (h : TT) : Option (Int32 × TT) := k40 x1 h
set_option maxRecDepth 20000 in
theorem j_X8_snowFault_182 {p : Program} {l : Launch} {e : Env} {R : Room} {s : State} {m : MethodId} {args : Array Value} {below : List Frame} {meth : Method} {c : Code} {w : WK} (C : CX p R s m args meth c w RX8 cX8_snowFault 3 (some .int) 2 47)    {k40 : Int32 → TT → Option (Int32 × TT)} (hk40 : ∀ (x1 : Int32)  (h : TT), GO p l e R s m args below meth c w 3 fIT (k40 x1 h) 40 [(0, .ref (w.2.1 (147))), (1, .int x1)] [] h) (x1 : Int32)  (h : TT) : GO p l e R s m args below meth c w 3 fIT (f_X8_snowFault_182 k40 x1 h) 182 [(0, .ref (w.2.1 (147))), (1, .int x1)] [] h := by
  unfold f_X8_snowFault_182
  refine g_goto (pc := 182) (tgt := 40) C dX8_snowFault_182 (by decide) ?_
  exact hk40 x1 h
def f_X8_snowFault_151  (k40 : Int32 → TT → Option (Int32 × TT)) (x1 : Int32) (x2 : Int32) (xs0 : Int32) (xs1 : Int32) (xs2 : Int32) (h : TT) : Option (Int32 × TT) := (f_X8_number h xs2 xs1 xs0).bind fun q22 => (if q22.1 = 0 then some (q22.2.1 147 14, q22.2) else if inb x2 4 = true then nm (wr q22.2 158 x2.toNatClampNeg (q22.2.1 147 15)) fun h25 => nm (wr h25 147 16 ((h25.1 147 16) + (1 : Int32))) fun h26 => f_X8_snowFault_182 k40 x1 h26 else none)
set_option maxRecDepth 20000 in
theorem j_X8_snowFault_151 {p : Program} {l : Launch} {e : Env} {R : Room} {s : State} {m : MethodId} {args : Array Value} {below : List Frame} {meth : Method} {c : Code} {w : WK} (C : CX p R s m args meth c w RX8 cX8_snowFault 3 (some .int) 2 47)    {k40 : Int32 → TT → Option (Int32 × TT)} (hk40 : ∀ (x1 : Int32)  (h : TT), GO p l e R s m args below meth c w 3 fIT (k40 x1 h) 40 [(0, .ref (w.2.1 (147))), (1, .int x1)] [] h) (x1 : Int32) (x2 : Int32) (xs0 : Int32) (xs1 : Int32) (xs2 : Int32)  (h : TT) : GO p l e R s m args below meth c w 3 fIT (f_X8_snowFault_151 k40 x1 x2 xs0 xs1 xs2 h) 151 [(0, .ref (w.2.1 (147))), (1, .int x1), (2, .int x2)] [.int xs0, .int xs1, .int xs2, .ref (w.2.1 (147))] h := by
  unfold f_X8_snowFault_151
  refine g_callIT (pc := 151) (rest := []) (g_runV C mv_RX8_114 (fun x1 hx1 => m_X8_number hx1) so_RX8 rfl (by decide) rfl rfl (Nat.le_of_ble_eq_true rfl) dX8_snowFault_151) (fun q22 => ?_)
  refine g_if_ne (pc := 154) (tgt := 162) C dX8_snowFault_154 (by decide) (fun hc23 => ?_) (fun hc23 => ?_)
  · refine g_aload_n (pc := 157) C 0 rfl dX8_snowFault_157 rfl ?_
    refine g_get (pc := 158) C so_RX8 14 fl_RX8_99 (v := .int (q22.2.1 147 14)) rfl dX8_snowFault_158 ?_
    exact g_iretT C dX8_snowFault_161
  · refine g_aload_n (pc := 162) C 0 rfl dX8_snowFault_162 rfl ?_
    refine g_get (pc := 163) C so_RX8 18 fl_RX8_42 (v := .ref (w.2.1 (158))) rfl dX8_snowFault_163 ?_
    refine g_iload_n (pc := 166) C 2 rfl dX8_snowFault_166 rfl ?_
    refine g_aload_n (pc := 167) C 0 rfl dX8_snowFault_167 rfl ?_
    refine g_get (pc := 168) C so_RX8 15 fl_RX8_105 (v := .int (q22.2.1 147 15)) rfl dX8_snowFault_168 ?_
    refine g_iast (pc := 171) C si_158 dX8_snowFault_171 (fun hb24 => ?_)
    refine g_nm (fun h25 => ?_)
    refine g_aload_n (pc := 172) C 0 rfl dX8_snowFault_172 rfl ?_
    refine g_dup (pc := 173) C dX8_snowFault_173 rfl ?_
    refine g_get (pc := 174) C so_RX8 16 fl_RX8_108 (v := .int (h25.1 147 16)) rfl dX8_snowFault_174 ?_
    refine g_iconst (pc := 177) (v := 1) C dX8_snowFault_177 kc_1 ?_
    refine g_iadd (pc := 178) C dX8_snowFault_178 ?_
    refine g_putI (pc := 179) C so_RX8 16 fp_RX8_108 (se_RX8_16 _) rfl rfl (sl_RX8_16) dX8_snowFault_179 ?_
    refine g_nm (fun h26 => ?_)
    refine g_lv (lv' := [(0, .ref (w.2.1 (147))), (1, .int x1)]) [0, 1] rfl ?_
    exact j_X8_snowFault_182 C hk40 x1 h26
def f_X8_snowFault_130  (k40 : Int32 → TT → Option (Int32 × TT)) (x1 : Int32) (x2 : Int32) (xs0 : Int32) (xs1 : Int32) (h : TT) : Option (Int32 × TT) := (if x2 = 0 then f_X8_snowFault_151 k40 x1 x2 (30 : Int32) xs0 xs1 h else (if x2 = (2 : Int32) then f_X8_snowFault_151 k40 x1 x2 (40 : Int32) xs0 xs1 h else f_X8_snowFault_151 k40 x1 x2 (9 : Int32) xs0 xs1 h))
set_option maxRecDepth 20000 in
theorem j_X8_snowFault_130 {p : Program} {l : Launch} {e : Env} {R : Room} {s : State} {m : MethodId} {args : Array Value} {below : List Frame} {meth : Method} {c : Code} {w : WK} (C : CX p R s m args meth c w RX8 cX8_snowFault 3 (some .int) 2 47)    {k40 : Int32 → TT → Option (Int32 × TT)} (hk40 : ∀ (x1 : Int32)  (h : TT), GO p l e R s m args below meth c w 3 fIT (k40 x1 h) 40 [(0, .ref (w.2.1 (147))), (1, .int x1)] [] h) (x1 : Int32) (x2 : Int32) (xs0 : Int32) (xs1 : Int32)  (h : TT) : GO p l e R s m args below meth c w 3 fIT (f_X8_snowFault_130 k40 x1 x2 xs0 xs1 h) 130 [(0, .ref (w.2.1 (147))), (1, .int x1), (2, .int x2)] [.int xs0, .int xs1, .ref (w.2.1 (147))] h := by
  unfold f_X8_snowFault_130
  refine g_iload_n (pc := 130) C 2 rfl dX8_snowFault_130 rfl ?_
  refine g_if_ne (pc := 131) (tgt := 139) C dX8_snowFault_131 (by decide) (fun hc21 => ?_) (fun hc21 => ?_)
  · refine g_bipush (pc := 134) (v := 30) C dX8_snowFault_134 kb_30 ?_
    refine g_goto (pc := 136) (tgt := 151) C dX8_snowFault_136 (by decide) ?_
    exact j_X8_snowFault_151 C hk40 x1 x2 (30 : Int32) xs0 xs1 h
  · refine g_iload_n (pc := 139) C 2 rfl dX8_snowFault_139 rfl ?_
    refine g_iconst (pc := 140) (v := 2) C dX8_snowFault_140 kc_2 ?_
    refine g_icmp_ne (pc := 141) (tgt := 149) C dX8_snowFault_141 (by decide) (fun hc27 => ?_) (fun hc27 => ?_)
    · refine g_bipush (pc := 144) (v := 40) C dX8_snowFault_144 kb_40 ?_
      refine g_goto (pc := 146) (tgt := 151) C dX8_snowFault_146 (by decide) ?_
      exact j_X8_snowFault_151 C hk40 x1 x2 (40 : Int32) xs0 xs1 h
    · refine g_bipush (pc := 149) (v := 9) C dX8_snowFault_149 kb_9 ?_
      exact j_X8_snowFault_151 C hk40 x1 x2 (9 : Int32) xs0 xs1 h
def f_X8_snowFault_125  (k40 : Int32 → TT → Option (Int32 × TT)) (x1 : Int32) (x2 : Int32) (xs0 : Int32) (h : TT) : Option (Int32 × TT) := f_X8_snowFault_130 k40 x1 x2 (1 : Int32) xs0 h
set_option maxRecDepth 20000 in
theorem j_X8_snowFault_125 {p : Program} {l : Launch} {e : Env} {R : Room} {s : State} {m : MethodId} {args : Array Value} {below : List Frame} {meth : Method} {c : Code} {w : WK} (C : CX p R s m args meth c w RX8 cX8_snowFault 3 (some .int) 2 47)    {k40 : Int32 → TT → Option (Int32 × TT)} (hk40 : ∀ (x1 : Int32)  (h : TT), GO p l e R s m args below meth c w 3 fIT (k40 x1 h) 40 [(0, .ref (w.2.1 (147))), (1, .int x1)] [] h) (x1 : Int32) (x2 : Int32) (xs0 : Int32)  (h : TT) : GO p l e R s m args below meth c w 3 fIT (f_X8_snowFault_125 k40 x1 x2 xs0 h) 125 [(0, .ref (w.2.1 (147))), (1, .int x1), (2, .int x2)] [.int xs0, .ref (w.2.1 (147))] h := by
  unfold f_X8_snowFault_125
  refine g_iconst (pc := 125) (v := 1) C dX8_snowFault_125 kc_1 ?_
  refine g_goto (pc := 126) (tgt := 130) C dX8_snowFault_126 (by decide) ?_
  exact j_X8_snowFault_130 C hk40 x1 x2 (1 : Int32) xs0 h
def f_X8_snowFault_40   : Nat → Int32 → TT → Option (Int32 × TT)
  | 0, _, _ => none
  | n + 1, x1, h => if inb x1 4 = true then (if (h.1 152 x1.toNatClampNeg) ≤ (h.1 147 14) then some ((-9 : Int32), h) else (f_X8_byteAt h x1 (h.1 147 14)).bind fun r13 => (f_X8_itemOf h r13).bind fun r14 => (f_X8_byteAt h x1 (h.1 147 14)).bind fun r15 => (if r15 = (32 : Int32) then nm (wr h 147 14 ((h.1 147 14) + (1 : Int32))) fun h17 => f_X8_snowFault_182 (f_X8_snowFault_40 n) x1 h17 else (if r14 = (-9 : Int32) then some (h.1 147 14, h) else nm (wr h 147 14 ((h.1 147 14) + (1 : Int32))) fun h19 => (if r14 = 0 then f_X8_snowFault_125 (f_X8_snowFault_40 n) x1 r14 x1 h19 else (if r14 = (3 : Int32) then f_X8_snowFault_125 (f_X8_snowFault_40 n) x1 r14 x1 h19 else f_X8_snowFault_130 (f_X8_snowFault_40 n) x1 r14 (0 : Int32) x1 h19))))) else none
set_option maxRecDepth 20000 in
theorem j_X8_snowFault_40 {p : Program} {l : Launch} {e : Env} {R : Room} {s : State} {m : MethodId} {args : Array Value} {below : List Frame} {meth : Method} {c : Code} {w : WK} (C : CX p R s m args meth c w RX8 cX8_snowFault 3 (some .int) 2 47)     : ∀ (n : Nat) (x1 : Int32) (h : TT), GO p l e R s m args below meth c w 3 fIT (f_X8_snowFault_40 n x1 h) 40 [(0, .ref (w.2.1 (147))), (1, .int x1)] [] h := by
  intro n
  induction n with
  | zero =>
    intro x1 h
    exact g_none
  | succ n ih =>
    intro x1 h
    rw [f_X8_snowFault_40]
    refine g_aload_n (pc := 40) C 0 rfl dX8_snowFault_40 rfl ?_
    refine g_get (pc := 41) C so_RX8 14 fl_RX8_99 (v := .int (h.1 147 14)) rfl dX8_snowFault_41 ?_
    refine g_aload_n (pc := 44) C 0 rfl dX8_snowFault_44 rfl ?_
    refine g_get (pc := 45) C so_RX8 8 fl_RX8_22 (v := .ref (w.2.1 (152))) rfl dX8_snowFault_45 ?_
    refine g_iload_n (pc := 48) C 1 rfl dX8_snowFault_48 rfl ?_
    refine g_iald (pc := 49) C si_152 dX8_snowFault_49 (fun hb11 => ?_)
    refine g_icmp_ge (pc := 50) (tgt := 185) C dX8_snowFault_50 (by decide) (fun hc12 => ?_) (fun hc12 => ?_)
    · refine g_bipush (pc := 185) (v := -9) C dX8_snowFault_185 kb_m9 ?_
      exact g_iretT C dX8_snowFault_187
    · refine g_aload_n (pc := 53) C 0 rfl dX8_snowFault_53 rfl ?_
      refine g_iload_n (pc := 54) C 1 rfl dX8_snowFault_54 rfl ?_
      refine g_aload_n (pc := 55) C 0 rfl dX8_snowFault_55 rfl ?_
      refine g_get (pc := 56) C so_RX8 14 fl_RX8_99 (v := .int (h.1 147 14)) rfl dX8_snowFault_56 ?_
      refine g_callI (pc := 59) (rest := []) (g_runV C mv_RX8_102 (fun x1 hx1 => m_X8_byteAt hx1) so_RX8 rfl (by decide) rfl rfl (Nat.le_of_ble_eq_true rfl) dX8_snowFault_59) (fun r13 => ?_)
      refine g_callI (pc := 62) (rest := []) (g_runS C ms_RX8_111 (fun x1 hx1 => m_X8_itemOf hx1) (by decide) rfl rfl (Nat.le_of_ble_eq_true rfl) dX8_snowFault_62) (fun r14 => ?_)
      refine g_istore_n (pc := 65) C dX8_snowFault_65 rfl (by decide) (lv' := [(2, .int r14), (0, .ref (w.2.1 (147))), (1, .int x1)]) rfl ?_
      refine g_aload_n (pc := 66) C 1 rfl dX8_snowFault_66 rfl ?_
      refine g_iload_n (pc := 67) C 2 rfl dX8_snowFault_67 rfl ?_
      refine g_aload_n (pc := 68) C 1 rfl dX8_snowFault_68 rfl ?_
      refine g_get (pc := 69) C so_RX8 14 fl_RX8_99 (v := .int (h.1 147 14)) rfl dX8_snowFault_69 ?_
      refine g_callI (pc := 72) (rest := []) (g_runV C mv_RX8_102 (fun x1 hx1 => m_X8_byteAt hx1) so_RX8 rfl (by decide) rfl rfl (Nat.le_of_ble_eq_true rfl) dX8_snowFault_72) (fun r15 => ?_)
      refine g_bipush (pc := 75) (v := 32) C dX8_snowFault_75 kb_32 ?_
      refine g_icmp_ne (pc := 77) (tgt := 93) C dX8_snowFault_77 (by decide) (fun hc16 => ?_) (fun hc16 => ?_)
      · refine g_aload_n (pc := 80) C 1 rfl dX8_snowFault_80 rfl ?_
        refine g_dup (pc := 81) C dX8_snowFault_81 rfl ?_
        refine g_get (pc := 82) C so_RX8 14 fl_RX8_99 (v := .int (h.1 147 14)) rfl dX8_snowFault_82 ?_
        refine g_iconst (pc := 85) (v := 1) C dX8_snowFault_85 kc_1 ?_
        refine g_iadd (pc := 86) C dX8_snowFault_86 ?_
        refine g_putI (pc := 87) C so_RX8 14 fp_RX8_99 (se_RX8_14 _) rfl rfl (sl_RX8_14) dX8_snowFault_87 ?_
        refine g_nm (fun h17 => ?_)
        refine g_goto (pc := 90) (tgt := 182) C dX8_snowFault_90 (by decide) ?_
        refine g_lv (lv' := [(0, .ref (w.2.1 (147))), (1, .int x1)]) [1, 2] rfl ?_
        exact j_X8_snowFault_182 C ih x1 h17
      · refine g_iload_n (pc := 93) C 0 rfl dX8_snowFault_93 rfl ?_
        refine g_bipush (pc := 94) (v := -9) C dX8_snowFault_94 kb_m9 ?_
        refine g_icmp_ne (pc := 96) (tgt := 104) C dX8_snowFault_96 (by decide) (fun hc18 => ?_) (fun hc18 => ?_)
        · refine g_aload_n (pc := 99) C 1 rfl dX8_snowFault_99 rfl ?_
          refine g_get (pc := 100) C so_RX8 14 fl_RX8_99 (v := .int (h.1 147 14)) rfl dX8_snowFault_100 ?_
          exact g_iretT C dX8_snowFault_103
        · refine g_aload_n (pc := 104) C 1 rfl dX8_snowFault_104 rfl ?_
          refine g_dup (pc := 105) C dX8_snowFault_105 rfl ?_
          refine g_get (pc := 106) C so_RX8 14 fl_RX8_99 (v := .int (h.1 147 14)) rfl dX8_snowFault_106 ?_
          refine g_iconst (pc := 109) (v := 1) C dX8_snowFault_109 kc_1 ?_
          refine g_iadd (pc := 110) C dX8_snowFault_110 ?_
          refine g_putI (pc := 111) C so_RX8 14 fp_RX8_99 (se_RX8_14 _) rfl rfl (sl_RX8_14) dX8_snowFault_111 ?_
          refine g_nm (fun h19 => ?_)
          refine g_aload_n (pc := 114) C 1 rfl dX8_snowFault_114 rfl ?_
          refine g_iload_n (pc := 115) C 2 rfl dX8_snowFault_115 rfl ?_
          refine g_iload_n (pc := 116) C 0 rfl dX8_snowFault_116 rfl ?_
          refine g_if_eq (pc := 117) (tgt := 125) C dX8_snowFault_117 (by decide) (fun hc20 => ?_) (fun hc20 => ?_)
          · refine g_lv (lv' := [(0, .ref (w.2.1 (147))), (1, .int x1), (2, .int r14)]) [1, 2, 0] rfl ?_
            exact j_X8_snowFault_125 C ih x1 r14 x1 h19
          · refine g_iload_n (pc := 120) C 0 rfl dX8_snowFault_120 rfl ?_
            refine g_iconst (pc := 121) (v := 3) C dX8_snowFault_121 kc_3 ?_
            refine g_icmp_ne (pc := 122) (tgt := 129) C dX8_snowFault_122 (by decide) (fun hc28 => ?_) (fun hc28 => ?_)
            · refine g_lv (lv' := [(0, .ref (w.2.1 (147))), (1, .int x1), (2, .int r14)]) [1, 2, 0] rfl ?_
              exact j_X8_snowFault_125 C ih x1 r14 x1 h19
            · refine g_iconst (pc := 129) (v := 0) C dX8_snowFault_129 kc_0 ?_
              refine g_lv (lv' := [(0, .ref (w.2.1 (147))), (1, .int x1), (2, .int r14)]) [1, 2, 0] rfl ?_
              exact j_X8_snowFault_130 C ih x1 r14 (0 : Int32) x1 h19
def f_X8_snowFault (h : TT) (x1 : Int32) : Option (Int32 × TT) := nm (wr h 147 14 (0 : Int32)) fun h1 => nm (wr h1 147 16 (0 : Int32)) fun h2 => if inb (0 : Int32) 4 = true then nm (wr h2 158 (0 : Int32).toNatClampNeg (12 : Int32)) fun h4 => if inb (1 : Int32) 4 = true then nm (wr h4 158 (1 : Int32).toNatClampNeg (4 : Int32)) fun h6 => if inb (2 : Int32) 4 = true then nm (wr h6 158 (2 : Int32).toNatClampNeg (20 : Int32)) fun h8 => if inb (3 : Int32) 4 = true then nm (wr h8 158 (3 : Int32).toNatClampNeg (3 : Int32)) fun h10 => f_X8_snowFault_40 KF x1 h10 else none else none else none else none
set_option maxRecDepth 20000 in
theorem m_X8_snowFault {l : Launch} {w : WK} {h : TT} {x1 : Int32} {x : (Int32 × TT)} (hx : f_X8_snowFault h x1 = some x)  : Met l yX8_snowFault (Cond.code yX8_snowFault cX8_snowFault 3 (some .int) :: wsG) { frames := 2, cells := 0, slots := 0, locals := 47 } (PG w [.ref (w.2.1 (147)), .int x1] h) (QG w (fIT x)) 0 0 (AA w) := by
  refine m_entry (own := RX8) (f := fIT) hx (by decide) rfl (Nat.le_of_ble_eq_true rfl) (fun p e s m args below meth c C => ?_)
  show GO p l e _ s m args below meth c w 3 fIT (f_X8_snowFault h x1) 0 [(0, .ref (w.2.1 (147))), (1, .int x1)] [] h
  unfold f_X8_snowFault
  refine g_aload_n (pc := 0) C 0 rfl dX8_snowFault_0 rfl ?_
  refine g_iconst (pc := 1) (v := 0) C dX8_snowFault_1 kc_0 ?_
  refine g_putI (pc := 2) C so_RX8 14 fp_RX8_99 (se_RX8_14 _) rfl rfl (sl_RX8_14) dX8_snowFault_2 ?_
  refine g_nm (fun h1 => ?_)
  refine g_aload_n (pc := 5) C 0 rfl dX8_snowFault_5 rfl ?_
  refine g_iconst (pc := 6) (v := 0) C dX8_snowFault_6 kc_0 ?_
  refine g_putI (pc := 7) C so_RX8 16 fp_RX8_108 (se_RX8_16 _) rfl rfl (sl_RX8_16) dX8_snowFault_7 ?_
  refine g_nm (fun h2 => ?_)
  refine g_aload_n (pc := 10) C 0 rfl dX8_snowFault_10 rfl ?_
  refine g_get (pc := 11) C so_RX8 18 fl_RX8_42 (v := .ref (w.2.1 (158))) rfl dX8_snowFault_11 ?_
  refine g_iconst (pc := 14) (v := 0) C dX8_snowFault_14 kc_0 ?_
  refine g_bipush (pc := 15) (v := 12) C dX8_snowFault_15 kb_12 ?_
  refine g_iast (pc := 17) C si_158 dX8_snowFault_17 (fun hb3 => ?_)
  refine g_nm (fun h4 => ?_)
  refine g_aload_n (pc := 18) C 0 rfl dX8_snowFault_18 rfl ?_
  refine g_get (pc := 19) C so_RX8 18 fl_RX8_42 (v := .ref (w.2.1 (158))) rfl dX8_snowFault_19 ?_
  refine g_iconst (pc := 22) (v := 1) C dX8_snowFault_22 kc_1 ?_
  refine g_iconst (pc := 23) (v := 4) C dX8_snowFault_23 kc_4 ?_
  refine g_iast (pc := 24) C si_158 dX8_snowFault_24 (fun hb5 => ?_)
  refine g_nm (fun h6 => ?_)
  refine g_aload_n (pc := 25) C 0 rfl dX8_snowFault_25 rfl ?_
  refine g_get (pc := 26) C so_RX8 18 fl_RX8_42 (v := .ref (w.2.1 (158))) rfl dX8_snowFault_26 ?_
  refine g_iconst (pc := 29) (v := 2) C dX8_snowFault_29 kc_2 ?_
  refine g_bipush (pc := 30) (v := 20) C dX8_snowFault_30 kb_20 ?_
  refine g_iast (pc := 32) C si_158 dX8_snowFault_32 (fun hb7 => ?_)
  refine g_nm (fun h8 => ?_)
  refine g_aload_n (pc := 33) C 0 rfl dX8_snowFault_33 rfl ?_
  refine g_get (pc := 34) C so_RX8 18 fl_RX8_42 (v := .ref (w.2.1 (158))) rfl dX8_snowFault_34 ?_
  refine g_iconst (pc := 37) (v := 3) C dX8_snowFault_37 kc_3 ?_
  refine g_iconst (pc := 38) (v := 3) C dX8_snowFault_38 kc_3 ?_
  refine g_iast (pc := 39) C si_158 dX8_snowFault_39 (fun hb9 => ?_)
  refine g_nm (fun h10 => ?_)
  exact j_X8_snowFault_40 C KF x1 h10
/-- SnowHouseModel.readsCourse(I)Z -/
def f_X8_readsCourse_73   (x3 : Int32) (xs0 : Int32) (xs1 : Int32) (h : TT) : Option (Int32 × TT) := if inb xs1 26 = true then nm (wr h 159 xs1.toNatClampNeg xs0) fun h9 => if isZ x3 = true then some (x3, h9) else none else none
set_option maxRecDepth 20000 in
theorem j_X8_readsCourse_73 {p : Program} {l : Launch} {e : Env} {R : Room} {s : State} {m : MethodId} {args : Array Value} {below : List Frame} {meth : Method} {c : Code} {w : WK} (C : CX p R s m args meth c w RX8 cX8_readsCourse 5 (some .boolean) 2 47)     (x3 : Int32) (xs0 : Int32) (xs1 : Int32)  (h : TT) : GO p l e R s m args below meth c w 5 fIT (f_X8_readsCourse_73 x3 xs0 xs1 h) 73 [(3, .int x3)] [.int xs0, .int xs1, .ref (w.2.1 (159))] h := by
  unfold f_X8_readsCourse_73
  refine g_iast (pc := 73) C si_159 dX8_readsCourse_73 (fun hb8 => ?_)
  refine g_nm (fun h9 => ?_)
  refine g_iload_n (pc := 74) C 0 rfl dX8_readsCourse_74 rfl ?_
  refine g_guard (fun hz10 => ?_)
  exact g_zretT C dX8_readsCourse_75 hz10
def f_X8_readsCourse_50   (xs0 : Int32) (h : TT) : Option (Int32 × TT) := (if xs0 = 0 then if inb (1 : Int32) 26 = true then f_X8_readsCourse_73 xs0 (h.1 159 (1 : Int32).toNatClampNeg) (1 : Int32) h else none else f_X8_readsCourse_73 xs0 (h.1 147 15) (1 : Int32) h)
set_option maxRecDepth 20000 in
theorem j_X8_readsCourse_50 {p : Program} {l : Launch} {e : Env} {R : Room} {s : State} {m : MethodId} {args : Array Value} {below : List Frame} {meth : Method} {c : Code} {w : WK} (C : CX p R s m args meth c w RX8 cX8_readsCourse 5 (some .boolean) 2 47)     (xs0 : Int32)  (h : TT) : GO p l e R s m args below meth c w 5 fIT (f_X8_readsCourse_50 xs0 h) 50 [(0, .ref (w.2.1 (147)))] [.int xs0] h := by
  unfold f_X8_readsCourse_50
  refine g_istore_n (pc := 50) C dX8_readsCourse_50 rfl (by decide) (lv' := [(3, .int xs0), (0, .ref (w.2.1 (147)))]) rfl ?_
  refine g_aload_n (pc := 51) C 1 rfl dX8_readsCourse_51 rfl ?_
  refine g_get (pc := 52) C so_RX8 19 fl_RX8_45 (v := .ref (w.2.1 (159))) rfl dX8_readsCourse_52 ?_
  refine g_iconst (pc := 55) (v := 1) C dX8_readsCourse_55 kc_1 ?_
  refine g_iload_n (pc := 56) C 0 rfl dX8_readsCourse_56 rfl ?_
  refine g_if_eq (pc := 57) (tgt := 67) C dX8_readsCourse_57 (by decide) (fun hc6 => ?_) (fun hc6 => ?_)
  · refine g_aload_n (pc := 67) C 1 rfl dX8_readsCourse_67 rfl ?_
    refine g_get (pc := 68) C so_RX8 19 fl_RX8_45 (v := .ref (w.2.1 (159))) rfl dX8_readsCourse_68 ?_
    refine g_iconst (pc := 71) (v := 1) C dX8_readsCourse_71 kc_1 ?_
    refine g_iald (pc := 72) C si_159 dX8_readsCourse_72 (fun hb7 => ?_)
    refine g_lv (lv' := [(3, .int xs0)]) [0] rfl ?_
    exact j_X8_readsCourse_73 C xs0 (h.1 159 (1 : Int32).toNatClampNeg) (1 : Int32) h
  · refine g_aload_n (pc := 60) C 1 rfl dX8_readsCourse_60 rfl ?_
    refine g_get (pc := 61) C so_RX8 15 fl_RX8_105 (v := .int (h.1 147 15)) rfl dX8_readsCourse_61 ?_
    refine g_goto (pc := 64) (tgt := 73) C dX8_readsCourse_64 (by decide) ?_
    refine g_lv (lv' := [(3, .int xs0)]) [0] rfl ?_
    exact j_X8_readsCourse_73 C xs0 (h.1 147 15) (1 : Int32) h
def f_X8_readsCourse_49    (h : TT) : Option (Int32 × TT) := f_X8_readsCourse_50 (0 : Int32) h
set_option maxRecDepth 20000 in
theorem j_X8_readsCourse_49 {p : Program} {l : Launch} {e : Env} {R : Room} {s : State} {m : MethodId} {args : Array Value} {below : List Frame} {meth : Method} {c : Code} {w : WK} (C : CX p R s m args meth c w RX8 cX8_readsCourse 5 (some .boolean) 2 47)       (h : TT) : GO p l e R s m args below meth c w 5 fIT (f_X8_readsCourse_49 h) 49 [(0, .ref (w.2.1 (147)))] [] h := by
  unfold f_X8_readsCourse_49
  refine g_iconst (pc := 49) (v := 0) C dX8_readsCourse_49 kc_0 ?_
  exact j_X8_readsCourse_50 C (0 : Int32) h
def f_X8_readsCourse_193   (x3 : Int32) (x4 : Int32) (xs0 : Int32) (xs1 : Int32) (h : TT) : Option (Int32 × TT) := if inb xs1 26 = true then nm (wr h 159 xs1.toNatClampNeg xs0) fun h29 => if inb (x4 + (1 : Int32)) 26 = true then nm (wr h29 159 (x4 + (1 : Int32)).toNatClampNeg x3) fun h31 => if inb (x4 + (2 : Int32)) 26 = true then nm (wr h31 159 (x4 + (2 : Int32)).toNatClampNeg (h31.1 147 15)) fun h33 => if inb (0 : Int32) 26 = true then if inb (0 : Int32) 26 = true then nm (wr h33 159 (0 : Int32).toNatClampNeg ((h33.1 159 (0 : Int32).toNatClampNeg) + (1 : Int32))) fun h36 => nm (wr h36 147 17 ((h36.1 147 17) + x3)) fun h37 => some ((1 : Int32), h37) else none else none else none else none else none
set_option maxRecDepth 20000 in
theorem j_X8_readsCourse_193 {p : Program} {l : Launch} {e : Env} {R : Room} {s : State} {m : MethodId} {args : Array Value} {below : List Frame} {meth : Method} {c : Code} {w : WK} (C : CX p R s m args meth c w RX8 cX8_readsCourse 5 (some .boolean) 2 47)     (x3 : Int32) (x4 : Int32) (xs0 : Int32) (xs1 : Int32)  (h : TT) : GO p l e R s m args below meth c w 5 fIT (f_X8_readsCourse_193 x3 x4 xs0 xs1 h) 193 [(0, .ref (w.2.1 (147))), (3, .int x3), (4, .int x4)] [.int xs0, .int xs1, .ref (w.2.1 (159))] h := by
  unfold f_X8_readsCourse_193
  refine g_iast (pc := 193) C si_159 dX8_readsCourse_193 (fun hb28 => ?_)
  refine g_nm (fun h29 => ?_)
  refine g_aload_n (pc := 194) C 0 rfl dX8_readsCourse_194 rfl ?_
  refine g_get (pc := 195) C so_RX8 19 fl_RX8_45 (v := .ref (w.2.1 (159))) rfl dX8_readsCourse_195 ?_
  refine g_iload (pc := 198) C 2 rfl dX8_readsCourse_198 ?_
  refine g_iconst (pc := 200) (v := 1) C dX8_readsCourse_200 kc_1 ?_
  refine g_iadd (pc := 201) C dX8_readsCourse_201 ?_
  refine g_iload_n (pc := 202) C 1 rfl dX8_readsCourse_202 rfl ?_
  refine g_iast (pc := 203) C si_159 dX8_readsCourse_203 (fun hb30 => ?_)
  refine g_nm (fun h31 => ?_)
  refine g_aload_n (pc := 204) C 0 rfl dX8_readsCourse_204 rfl ?_
  refine g_get (pc := 205) C so_RX8 19 fl_RX8_45 (v := .ref (w.2.1 (159))) rfl dX8_readsCourse_205 ?_
  refine g_iload (pc := 208) C 2 rfl dX8_readsCourse_208 ?_
  refine g_iconst (pc := 210) (v := 2) C dX8_readsCourse_210 kc_2 ?_
  refine g_iadd (pc := 211) C dX8_readsCourse_211 ?_
  refine g_aload_n (pc := 212) C 0 rfl dX8_readsCourse_212 rfl ?_
  refine g_get (pc := 213) C so_RX8 15 fl_RX8_105 (v := .int (h31.1 147 15)) rfl dX8_readsCourse_213 ?_
  refine g_iast (pc := 216) C si_159 dX8_readsCourse_216 (fun hb32 => ?_)
  refine g_nm (fun h33 => ?_)
  refine g_aload_n (pc := 217) C 0 rfl dX8_readsCourse_217 rfl ?_
  refine g_get (pc := 218) C so_RX8 19 fl_RX8_45 (v := .ref (w.2.1 (159))) rfl dX8_readsCourse_218 ?_
  refine g_iconst (pc := 221) (v := 0) C dX8_readsCourse_221 kc_0 ?_
  refine g_dup2 (pc := 222) C dX8_readsCourse_222 rfl rfl ?_
  refine g_iald (pc := 223) C si_159 dX8_readsCourse_223 (fun hb34 => ?_)
  refine g_iconst (pc := 224) (v := 1) C dX8_readsCourse_224 kc_1 ?_
  refine g_iadd (pc := 225) C dX8_readsCourse_225 ?_
  refine g_iast (pc := 226) C si_159 dX8_readsCourse_226 (fun hb35 => ?_)
  refine g_nm (fun h36 => ?_)
  refine g_aload_n (pc := 227) C 0 rfl dX8_readsCourse_227 rfl ?_
  refine g_dup (pc := 228) C dX8_readsCourse_228 rfl ?_
  refine g_get (pc := 229) C so_RX8 17 fl_RX8_124 (v := .int (h36.1 147 17)) rfl dX8_readsCourse_229 ?_
  refine g_iload_n (pc := 232) C 1 rfl dX8_readsCourse_232 rfl ?_
  refine g_iadd (pc := 233) C dX8_readsCourse_233 ?_
  refine g_putI (pc := 234) C so_RX8 17 fp_RX8_124 (se_RX8_17 _) rfl rfl (sl_RX8_17) dX8_readsCourse_234 ?_
  refine g_nm (fun h37 => ?_)
  refine g_iconst (pc := 237) (v := 1) C dX8_readsCourse_237 kc_1 ?_
  exact g_zretT C dX8_readsCourse_238 rfl
def f_X8_readsCourse_88   (x1 : Int32) (x2 : Int32) (h : TT) : Option (Int32 × TT) := if inb (0 : Int32) 26 = true then (if (h.1 159 (0 : Int32).toNatClampNeg) = (8 : Int32) then some ((0 : Int32), h) else nm (wr h 147 14 ((h.1 147 14) + (1 : Int32))) fun h16 => (f_X8_number h16 x1 (1 : Int32) (12 : Int32)).bind fun q17 => (if q17.1 = 0 then some ((0 : Int32), q17.2) else (if ((q17.2.1 147 17) + (q17.2.1 147 15)) ≤ (60 : Int32) then nm (q17.2.1 147 15) fun y20 => (f_X8_sign q17.2 x1 (58 : Int32)).bind fun q21 => (if q21.1 = 0 then some ((0 : Int32), q21.2) else (f_X8_figure q21.2 x1 (0 : Int32)).bind fun q23 => (if q23.1 = 0 then some ((0 : Int32), q23.2) else if inb (0 : Int32) 26 = true then nm ((2 : Int32) + ((3 : Int32) * (q23.2.1 159 (0 : Int32).toNatClampNeg))) fun y26 => (if x2 = (114 : Int32) then f_X8_readsCourse_193 y20 y26 (1 : Int32) y26 q23.2 else f_X8_readsCourse_193 y20 y26 (2 : Int32) y26 q23.2) else none)) else some ((0 : Int32), q17.2)))) else none
set_option maxRecDepth 20000 in
theorem j_X8_readsCourse_88 {p : Program} {l : Launch} {e : Env} {R : Room} {s : State} {m : MethodId} {args : Array Value} {below : List Frame} {meth : Method} {c : Code} {w : WK} (C : CX p R s m args meth c w RX8 cX8_readsCourse 5 (some .boolean) 2 47)     (x1 : Int32) (x2 : Int32)  (h : TT) : GO p l e R s m args below meth c w 5 fIT (f_X8_readsCourse_88 x1 x2 h) 88 [(0, .ref (w.2.1 (147))), (1, .int x1), (2, .int x2)] [] h := by
  unfold f_X8_readsCourse_88
  refine g_aload_n (pc := 88) C 0 rfl dX8_readsCourse_88 rfl ?_
  refine g_get (pc := 89) C so_RX8 19 fl_RX8_45 (v := .ref (w.2.1 (159))) rfl dX8_readsCourse_89 ?_
  refine g_iconst (pc := 92) (v := 0) C dX8_readsCourse_92 kc_0 ?_
  refine g_iald (pc := 93) C si_159 dX8_readsCourse_93 (fun hb14 => ?_)
  refine g_bipush (pc := 94) (v := 8) C dX8_readsCourse_94 kb_8 ?_
  refine g_icmp_ne (pc := 96) (tgt := 101) C dX8_readsCourse_96 (by decide) (fun hc15 => ?_) (fun hc15 => ?_)
  · refine g_iconst (pc := 99) (v := 0) C dX8_readsCourse_99 kc_0 ?_
    exact g_zretT C dX8_readsCourse_100 rfl
  · refine g_aload_n (pc := 101) C 0 rfl dX8_readsCourse_101 rfl ?_
    refine g_dup (pc := 102) C dX8_readsCourse_102 rfl ?_
    refine g_get (pc := 103) C so_RX8 14 fl_RX8_99 (v := .int (h.1 147 14)) rfl dX8_readsCourse_103 ?_
    refine g_iconst (pc := 106) (v := 1) C dX8_readsCourse_106 kc_1 ?_
    refine g_iadd (pc := 107) C dX8_readsCourse_107 ?_
    refine g_putI (pc := 108) C so_RX8 14 fp_RX8_99 (se_RX8_14 _) rfl rfl (sl_RX8_14) dX8_readsCourse_108 ?_
    refine g_nm (fun h16 => ?_)
    refine g_aload_n (pc := 111) C 0 rfl dX8_readsCourse_111 rfl ?_
    refine g_iload_n (pc := 112) C 1 rfl dX8_readsCourse_112 rfl ?_
    refine g_iconst (pc := 113) (v := 1) C dX8_readsCourse_113 kc_1 ?_
    refine g_bipush (pc := 114) (v := 12) C dX8_readsCourse_114 kb_12 ?_
    refine g_callIT (pc := 116) (rest := []) (g_runV C mv_RX8_114 (fun x1 hx1 => m_X8_number hx1) so_RX8 rfl (by decide) rfl rfl (Nat.le_of_ble_eq_true rfl) dX8_readsCourse_116) (fun q17 => ?_)
    refine g_if_eq (pc := 119) (tgt := 136) C dX8_readsCourse_119 (by decide) (fun hc18 => ?_) (fun hc18 => ?_)
    · refine g_iconst (pc := 136) (v := 0) C dX8_readsCourse_136 kc_0 ?_
      exact g_zretT C dX8_readsCourse_137 rfl
    · refine g_aload_n (pc := 122) C 0 rfl dX8_readsCourse_122 rfl ?_
      refine g_get (pc := 123) C so_RX8 17 fl_RX8_124 (v := .int (q17.2.1 147 17)) rfl dX8_readsCourse_123 ?_
      refine g_aload_n (pc := 126) C 0 rfl dX8_readsCourse_126 rfl ?_
      refine g_get (pc := 127) C so_RX8 15 fl_RX8_105 (v := .int (q17.2.1 147 15)) rfl dX8_readsCourse_127 ?_
      refine g_iadd (pc := 130) C dX8_readsCourse_130 ?_
      refine g_bipush (pc := 131) (v := 60) C dX8_readsCourse_131 kb_60 ?_
      refine g_icmp_le (pc := 133) (tgt := 138) C dX8_readsCourse_133 (by decide) (fun hc19 => ?_) (fun hc19 => ?_)
      · refine g_aload_n (pc := 138) C 0 rfl dX8_readsCourse_138 rfl ?_
        refine g_get (pc := 139) C so_RX8 15 fl_RX8_105 (v := .int (q17.2.1 147 15)) rfl dX8_readsCourse_139 ?_
        refine g_nmi (fun y20 => ?_)
        refine g_istore_n (pc := 142) C dX8_readsCourse_142 rfl (by decide) (lv' := [(3, .int y20), (0, .ref (w.2.1 (147))), (1, .int x1), (2, .int x2)]) rfl ?_
        refine g_aload_n (pc := 143) C 1 rfl dX8_readsCourse_143 rfl ?_
        refine g_iload_n (pc := 144) C 2 rfl dX8_readsCourse_144 rfl ?_
        refine g_bipush (pc := 145) (v := 58) C dX8_readsCourse_145 kb_58 ?_
        refine g_callIT (pc := 147) (rest := []) (g_runV C mv_RX8_117 (fun x1 hx1 => m_X8_sign hx1) so_RX8 rfl (by decide) rfl rfl (Nat.le_of_ble_eq_true rfl) dX8_readsCourse_147) (fun q21 => ?_)
        refine g_if_eq (pc := 150) (tgt := 162) C dX8_readsCourse_150 (by decide) (fun hc22 => ?_) (fun hc22 => ?_)
        · refine g_iconst (pc := 162) (v := 0) C dX8_readsCourse_162 kc_0 ?_
          exact g_zretT C dX8_readsCourse_163 rfl
        · refine g_aload_n (pc := 153) C 1 rfl dX8_readsCourse_153 rfl ?_
          refine g_iload_n (pc := 154) C 2 rfl dX8_readsCourse_154 rfl ?_
          refine g_iconst (pc := 155) (v := 0) C dX8_readsCourse_155 kc_0 ?_
          refine g_callIT (pc := 156) (rest := []) (g_runV C mv_RX8_121 (fun x1 hx1 => m_X8_figure hx1) so_RX8 rfl (by decide) rfl rfl (Nat.le_of_ble_eq_true rfl) dX8_readsCourse_156) (fun q23 => ?_)
          refine g_if_ne (pc := 159) (tgt := 164) C dX8_readsCourse_159 (by decide) (fun hc24 => ?_) (fun hc24 => ?_)
          · refine g_iconst (pc := 162) (v := 0) C dX8_readsCourse_162 kc_0 ?_
            exact g_zretT C dX8_readsCourse_163 rfl
          · refine g_iconst (pc := 164) (v := 2) C dX8_readsCourse_164 kc_2 ?_
            refine g_iconst (pc := 165) (v := 3) C dX8_readsCourse_165 kc_3 ?_
            refine g_aload_n (pc := 166) C 1 rfl dX8_readsCourse_166 rfl ?_
            refine g_get (pc := 167) C so_RX8 19 fl_RX8_45 (v := .ref (w.2.1 (159))) rfl dX8_readsCourse_167 ?_
            refine g_iconst (pc := 170) (v := 0) C dX8_readsCourse_170 kc_0 ?_
            refine g_iald (pc := 171) C si_159 dX8_readsCourse_171 (fun hb25 => ?_)
            refine g_imul (pc := 172) C dX8_readsCourse_172 ?_
            refine g_iadd (pc := 173) C dX8_readsCourse_173 ?_
            refine g_nmi (fun y26 => ?_)
            refine g_istore (pc := 174) C dX8_readsCourse_174 (by decide) (lv' := [(4, .int y26), (3, .int y20), (0, .ref (w.2.1 (147))), (1, .int x1), (2, .int x2)]) rfl ?_
            refine g_aload_n (pc := 176) C 2 rfl dX8_readsCourse_176 rfl ?_
            refine g_get (pc := 177) C so_RX8 19 fl_RX8_45 (v := .ref (w.2.1 (159))) rfl dX8_readsCourse_177 ?_
            refine g_iload (pc := 180) C 0 rfl dX8_readsCourse_180 ?_
            refine g_iload_n (pc := 182) C 4 rfl dX8_readsCourse_182 rfl ?_
            refine g_bipush (pc := 183) (v := 114) C dX8_readsCourse_183 kb_114 ?_
            refine g_icmp_ne (pc := 185) (tgt := 192) C dX8_readsCourse_185 (by decide) (fun hc27 => ?_) (fun hc27 => ?_)
            · refine g_iconst (pc := 188) (v := 1) C dX8_readsCourse_188 kc_1 ?_
              refine g_goto (pc := 189) (tgt := 193) C dX8_readsCourse_189 (by decide) ?_
              refine g_lv (lv' := [(0, .ref (w.2.1 (147))), (3, .int y20), (4, .int y26)]) [2, 1, 0] rfl ?_
              exact j_X8_readsCourse_193 C y20 y26 (1 : Int32) y26 q23.2
            · refine g_iconst (pc := 192) (v := 2) C dX8_readsCourse_192 kc_2 ?_
              refine g_lv (lv' := [(0, .ref (w.2.1 (147))), (3, .int y20), (4, .int y26)]) [2, 1, 0] rfl ?_
              exact j_X8_readsCourse_193 C y20 y26 (2 : Int32) y26 q23.2
      · refine g_iconst (pc := 136) (v := 0) C dX8_readsCourse_136 kc_0 ?_
        exact g_zretT C dX8_readsCourse_137 rfl
def f_X8_readsCourse (h : TT) (x1 : Int32) : Option (Int32 × TT) := (f_X8_byteAt h x1 (h.1 147 14)).bind fun r1 => (if r1 = (109 : Int32) then nm (wr h 147 14 ((h.1 147 14) + (1 : Int32))) fun h3 => (f_X8_sign h3 x1 (58 : Int32)).bind fun q4 => (if q4.1 = 0 then f_X8_readsCourse_49 q4.2 else (f_X8_figure q4.2 x1 (1 : Int32)).bind fun q11 => (if q11.1 = 0 then f_X8_readsCourse_49 q11.2 else f_X8_readsCourse_50 (1 : Int32) q11.2)) else (if r1 = (114 : Int32) then f_X8_readsCourse_88 x1 r1 h else (if r1 = (115 : Int32) then f_X8_readsCourse_88 x1 r1 h else some ((0 : Int32), h))))
set_option maxRecDepth 20000 in
theorem m_X8_readsCourse {l : Launch} {w : WK} {h : TT} {x1 : Int32} {x : (Int32 × TT)} (hx : f_X8_readsCourse h x1 = some x)  : Met l yX8_readsCourse (Cond.code yX8_readsCourse cX8_readsCourse 5 (some .boolean) :: wsG) { frames := 2, cells := 0, slots := 0, locals := 47 } (PG w [.ref (w.2.1 (147)), .int x1] h) (QG w (fIT x)) 0 0 (AA w) := by
  refine m_entry (own := RX8) (f := fIT) hx (by decide) rfl (Nat.le_of_ble_eq_true rfl) (fun p e s m args below meth c C => ?_)
  show GO p l e _ s m args below meth c w 5 fIT (f_X8_readsCourse h x1) 0 [(0, .ref (w.2.1 (147))), (1, .int x1)] [] h
  unfold f_X8_readsCourse
  refine g_aload_n (pc := 0) C 0 rfl dX8_readsCourse_0 rfl ?_
  refine g_iload_n (pc := 1) C 1 rfl dX8_readsCourse_1 rfl ?_
  refine g_aload_n (pc := 2) C 0 rfl dX8_readsCourse_2 rfl ?_
  refine g_get (pc := 3) C so_RX8 14 fl_RX8_99 (v := .int (h.1 147 14)) rfl dX8_readsCourse_3 ?_
  refine g_callI (pc := 6) (rest := []) (g_runV C mv_RX8_102 (fun x1 hx1 => m_X8_byteAt hx1) so_RX8 rfl (by decide) rfl rfl (Nat.le_of_ble_eq_true rfl) dX8_readsCourse_6) (fun r1 => ?_)
  refine g_istore_n (pc := 9) C dX8_readsCourse_9 rfl (by decide) (lv' := [(2, .int r1), (0, .ref (w.2.1 (147))), (1, .int x1)]) rfl ?_
  refine g_iload_n (pc := 10) C 0 rfl dX8_readsCourse_10 rfl ?_
  refine g_bipush (pc := 11) (v := 109) C dX8_readsCourse_11 kb_109 ?_
  refine g_icmp_ne (pc := 13) (tgt := 76) C dX8_readsCourse_13 (by decide) (fun hc2 => ?_) (fun hc2 => ?_)
  · refine g_aload_n (pc := 16) C 1 rfl dX8_readsCourse_16 rfl ?_
    refine g_dup (pc := 17) C dX8_readsCourse_17 rfl ?_
    refine g_get (pc := 18) C so_RX8 14 fl_RX8_99 (v := .int (h.1 147 14)) rfl dX8_readsCourse_18 ?_
    refine g_iconst (pc := 21) (v := 1) C dX8_readsCourse_21 kc_1 ?_
    refine g_iadd (pc := 22) C dX8_readsCourse_22 ?_
    refine g_putI (pc := 23) C so_RX8 14 fp_RX8_99 (se_RX8_14 _) rfl rfl (sl_RX8_14) dX8_readsCourse_23 ?_
    refine g_nm (fun h3 => ?_)
    refine g_aload_n (pc := 26) C 1 rfl dX8_readsCourse_26 rfl ?_
    refine g_iload_n (pc := 27) C 2 rfl dX8_readsCourse_27 rfl ?_
    refine g_bipush (pc := 28) (v := 58) C dX8_readsCourse_28 kb_58 ?_
    refine g_callIT (pc := 30) (rest := []) (g_runV C mv_RX8_117 (fun x1 hx1 => m_X8_sign hx1) so_RX8 rfl (by decide) rfl rfl (Nat.le_of_ble_eq_true rfl) dX8_readsCourse_30) (fun q4 => ?_)
    refine g_if_eq (pc := 33) (tgt := 49) C dX8_readsCourse_33 (by decide) (fun hc5 => ?_) (fun hc5 => ?_)
    · refine g_lv (lv' := [(0, .ref (w.2.1 (147)))]) [1] rfl ?_
      exact j_X8_readsCourse_49 C q4.2
    · refine g_aload_n (pc := 36) C 1 rfl dX8_readsCourse_36 rfl ?_
      refine g_iload_n (pc := 37) C 2 rfl dX8_readsCourse_37 rfl ?_
      refine g_iconst (pc := 38) (v := 1) C dX8_readsCourse_38 kc_1 ?_
      refine g_callIT (pc := 39) (rest := []) (g_runV C mv_RX8_121 (fun x1 hx1 => m_X8_figure hx1) so_RX8 rfl (by decide) rfl rfl (Nat.le_of_ble_eq_true rfl) dX8_readsCourse_39) (fun q11 => ?_)
      refine g_if_eq (pc := 42) (tgt := 49) C dX8_readsCourse_42 (by decide) (fun hc12 => ?_) (fun hc12 => ?_)
      · refine g_lv (lv' := [(0, .ref (w.2.1 (147)))]) [1] rfl ?_
        exact j_X8_readsCourse_49 C q11.2
      · refine g_iconst (pc := 45) (v := 1) C dX8_readsCourse_45 kc_1 ?_
        refine g_goto (pc := 46) (tgt := 50) C dX8_readsCourse_46 (by decide) ?_
        refine g_lv (lv' := [(0, .ref (w.2.1 (147)))]) [1] rfl ?_
        exact j_X8_readsCourse_50 C (1 : Int32) q11.2
  · refine g_iload_n (pc := 76) C 0 rfl dX8_readsCourse_76 rfl ?_
    refine g_bipush (pc := 77) (v := 114) C dX8_readsCourse_77 kb_114 ?_
    refine g_icmp_eq (pc := 79) (tgt := 88) C dX8_readsCourse_79 (by decide) (fun hc13 => ?_) (fun hc13 => ?_)
    · refine g_lv (lv' := [(0, .ref (w.2.1 (147))), (1, .int x1), (2, .int r1)]) [1, 2, 0] rfl ?_
      exact j_X8_readsCourse_88 C x1 r1 h
    · refine g_iload_n (pc := 82) C 0 rfl dX8_readsCourse_82 rfl ?_
      refine g_bipush (pc := 83) (v := 115) C dX8_readsCourse_83 kb_115 ?_
      refine g_icmp_ne (pc := 85) (tgt := 99) C dX8_readsCourse_85 (by decide) (fun hc38 => ?_) (fun hc38 => ?_)
      · refine g_lv (lv' := [(0, .ref (w.2.1 (147))), (1, .int x1), (2, .int r1)]) [1, 2, 0] rfl ?_
        exact j_X8_readsCourse_88 C x1 r1 h
      · refine g_iconst (pc := 99) (v := 0) C dX8_readsCourse_99 kc_0 ?_
        exact g_zretT C dX8_readsCourse_100 rfl
/-- SnowHouseModel.planFault(I)I -/
def f_X8_planFault_24   : Nat → Int32 → TT → Option (Int32 × TT)
  | 0, _, _ => none
  | n + 1, x1, h => if inb x1 4 = true then (if (h.1 152 x1.toNatClampNeg) ≤ (h.1 147 14) then if inb (0 : Int32) 26 = true then (if (h.1 159 (0 : Int32).toNatClampNeg) = 0 then if inb x1 4 = true then some (h.1 152 x1.toNatClampNeg, h) else none else some ((-9 : Int32), h)) else none else (f_X8_byteAt h x1 (h.1 147 14)).bind fun r12 => (if r12 = (32 : Int32) then nm (wr h 147 14 ((h.1 147 14) + (1 : Int32))) fun h14 => f_X8_planFault_24 n x1 h14 else (f_X8_readsCourse h x1).bind fun q15 => (if q15.1 = 0 then some (q15.2.1 147 14, q15.2) else f_X8_planFault_24 n x1 q15.2))) else none
set_option maxRecDepth 20000 in
theorem j_X8_planFault_24 {p : Program} {l : Launch} {e : Env} {R : Room} {s : State} {m : MethodId} {args : Array Value} {below : List Frame} {meth : Method} {c : Code} {w : WK} (C : CX p R s m args meth c w RX8 cX8_planFault 2 (some .int) 3 71)     : ∀ (n : Nat) (x1 : Int32) (h : TT), GO p l e R s m args below meth c w 2 fIT (f_X8_planFault_24 n x1 h) 24 [(0, .ref (w.2.1 (147))), (1, .int x1)] [] h := by
  intro n
  induction n with
  | zero =>
    intro x1 h
    exact g_none
  | succ n ih =>
    intro x1 h
    rw [f_X8_planFault_24]
    refine g_aload_n (pc := 24) C 0 rfl dX8_planFault_24 rfl ?_
    refine g_get (pc := 25) C so_RX8 14 fl_RX8_99 (v := .int (h.1 147 14)) rfl dX8_planFault_25 ?_
    refine g_aload_n (pc := 28) C 0 rfl dX8_planFault_28 rfl ?_
    refine g_get (pc := 29) C so_RX8 8 fl_RX8_22 (v := .ref (w.2.1 (152))) rfl dX8_planFault_29 ?_
    refine g_iload_n (pc := 32) C 1 rfl dX8_planFault_32 rfl ?_
    refine g_iald (pc := 33) C si_152 dX8_planFault_33 (fun hb7 => ?_)
    refine g_icmp_ge (pc := 34) (tgt := 77) C dX8_planFault_34 (by decide) (fun hc8 => ?_) (fun hc8 => ?_)
    · refine g_aload_n (pc := 77) C 0 rfl dX8_planFault_77 rfl ?_
      refine g_get (pc := 78) C so_RX8 19 fl_RX8_45 (v := .ref (w.2.1 (159))) rfl dX8_planFault_78 ?_
      refine g_iconst (pc := 81) (v := 0) C dX8_planFault_81 kc_0 ?_
      refine g_iald (pc := 82) C si_159 dX8_planFault_82 (fun hb9 => ?_)
      refine g_if_ne (pc := 83) (tgt := 95) C dX8_planFault_83 (by decide) (fun hc10 => ?_) (fun hc10 => ?_)
      · refine g_aload_n (pc := 86) C 0 rfl dX8_planFault_86 rfl ?_
        refine g_get (pc := 87) C so_RX8 8 fl_RX8_22 (v := .ref (w.2.1 (152))) rfl dX8_planFault_87 ?_
        refine g_iload_n (pc := 90) C 1 rfl dX8_planFault_90 rfl ?_
        refine g_iald (pc := 91) C si_152 dX8_planFault_91 (fun hb11 => ?_)
        refine g_goto (pc := 92) (tgt := 97) C dX8_planFault_92 (by decide) ?_
        exact g_iretT C dX8_planFault_97
      · refine g_bipush (pc := 95) (v := -9) C dX8_planFault_95 kb_m9 ?_
        exact g_iretT C dX8_planFault_97
    · refine g_aload_n (pc := 37) C 0 rfl dX8_planFault_37 rfl ?_
      refine g_iload_n (pc := 38) C 1 rfl dX8_planFault_38 rfl ?_
      refine g_aload_n (pc := 39) C 0 rfl dX8_planFault_39 rfl ?_
      refine g_get (pc := 40) C so_RX8 14 fl_RX8_99 (v := .int (h.1 147 14)) rfl dX8_planFault_40 ?_
      refine g_callI (pc := 43) (rest := []) (g_runV C mv_RX8_102 (fun x1 hx1 => m_X8_byteAt hx1) so_RX8 rfl (by decide) rfl rfl (Nat.le_of_ble_eq_true rfl) dX8_planFault_43) (fun r12 => ?_)
      refine g_bipush (pc := 46) (v := 32) C dX8_planFault_46 kb_32 ?_
      refine g_icmp_ne (pc := 48) (tgt := 64) C dX8_planFault_48 (by decide) (fun hc13 => ?_) (fun hc13 => ?_)
      · refine g_aload_n (pc := 51) C 0 rfl dX8_planFault_51 rfl ?_
        refine g_dup (pc := 52) C dX8_planFault_52 rfl ?_
        refine g_get (pc := 53) C so_RX8 14 fl_RX8_99 (v := .int (h.1 147 14)) rfl dX8_planFault_53 ?_
        refine g_iconst (pc := 56) (v := 1) C dX8_planFault_56 kc_1 ?_
        refine g_iadd (pc := 57) C dX8_planFault_57 ?_
        refine g_putI (pc := 58) C so_RX8 14 fp_RX8_99 (se_RX8_14 _) rfl rfl (sl_RX8_14) dX8_planFault_58 ?_
        refine g_nm (fun h14 => ?_)
        refine g_goto (pc := 61) (tgt := 24) C dX8_planFault_61 (by decide) ?_
        exact ih x1 h14
      · refine g_aload_n (pc := 64) C 0 rfl dX8_planFault_64 rfl ?_
        refine g_iload_n (pc := 65) C 1 rfl dX8_planFault_65 rfl ?_
        refine g_callIT (pc := 66) (rest := []) (g_runV C mv_RX8_127 (fun x1 hx1 => m_X8_readsCourse hx1) so_RX8 rfl (by decide) rfl rfl (Nat.le_of_ble_eq_true rfl) dX8_planFault_66) (fun q15 => ?_)
        refine g_if_ne (pc := 69) (tgt := 24) C dX8_planFault_69 (by decide) (fun hc16 => ?_) (fun hc16 => ?_)
        · refine g_aload_n (pc := 72) C 0 rfl dX8_planFault_72 rfl ?_
          refine g_get (pc := 73) C so_RX8 14 fl_RX8_99 (v := .int (q15.2.1 147 14)) rfl dX8_planFault_73 ?_
          exact g_iretT C dX8_planFault_76
        · exact ih x1 q15.2
def f_X8_planFault (h : TT) (x1 : Int32) : Option (Int32 × TT) := nm (wr h 147 14 (0 : Int32)) fun h1 => nm (wr h1 147 17 (0 : Int32)) fun h2 => if inb (0 : Int32) 26 = true then nm (wr h2 159 (0 : Int32).toNatClampNeg (0 : Int32)) fun h4 => if inb (1 : Int32) 26 = true then nm (wr h4 159 (1 : Int32).toNatClampNeg (2 : Int32)) fun h6 => f_X8_planFault_24 KF x1 h6 else none else none
set_option maxRecDepth 20000 in
theorem m_X8_planFault {l : Launch} {w : WK} {h : TT} {x1 : Int32} {x : (Int32 × TT)} (hx : f_X8_planFault h x1 = some x)  : Met l yX8_planFault (Cond.code yX8_planFault cX8_planFault 2 (some .int) :: wsG) { frames := 3, cells := 0, slots := 0, locals := 71 } (PG w [.ref (w.2.1 (147)), .int x1] h) (QG w (fIT x)) 0 0 (AA w) := by
  refine m_entry (own := RX8) (f := fIT) hx (by decide) rfl (Nat.le_of_ble_eq_true rfl) (fun p e s m args below meth c C => ?_)
  show GO p l e _ s m args below meth c w 2 fIT (f_X8_planFault h x1) 0 [(0, .ref (w.2.1 (147))), (1, .int x1)] [] h
  unfold f_X8_planFault
  refine g_aload_n (pc := 0) C 0 rfl dX8_planFault_0 rfl ?_
  refine g_iconst (pc := 1) (v := 0) C dX8_planFault_1 kc_0 ?_
  refine g_putI (pc := 2) C so_RX8 14 fp_RX8_99 (se_RX8_14 _) rfl rfl (sl_RX8_14) dX8_planFault_2 ?_
  refine g_nm (fun h1 => ?_)
  refine g_aload_n (pc := 5) C 0 rfl dX8_planFault_5 rfl ?_
  refine g_iconst (pc := 6) (v := 0) C dX8_planFault_6 kc_0 ?_
  refine g_putI (pc := 7) C so_RX8 17 fp_RX8_124 (se_RX8_17 _) rfl rfl (sl_RX8_17) dX8_planFault_7 ?_
  refine g_nm (fun h2 => ?_)
  refine g_aload_n (pc := 10) C 0 rfl dX8_planFault_10 rfl ?_
  refine g_get (pc := 11) C so_RX8 19 fl_RX8_45 (v := .ref (w.2.1 (159))) rfl dX8_planFault_11 ?_
  refine g_iconst (pc := 14) (v := 0) C dX8_planFault_14 kc_0 ?_
  refine g_iconst (pc := 15) (v := 0) C dX8_planFault_15 kc_0 ?_
  refine g_iast (pc := 16) C si_159 dX8_planFault_16 (fun hb3 => ?_)
  refine g_nm (fun h4 => ?_)
  refine g_aload_n (pc := 17) C 0 rfl dX8_planFault_17 rfl ?_
  refine g_get (pc := 18) C so_RX8 19 fl_RX8_45 (v := .ref (w.2.1 (159))) rfl dX8_planFault_18 ?_
  refine g_iconst (pc := 21) (v := 1) C dX8_planFault_21 kc_1 ?_
  refine g_iconst (pc := 22) (v := 2) C dX8_planFault_22 kc_2 ?_
  refine g_iast (pc := 23) C si_159 dX8_planFault_23 (fun hb5 => ?_)
  refine g_nm (fun h6 => ?_)
  exact j_X8_planFault_24 C KF x1 h6
/-- SnowHouseModel.fault(IZ)I -/
def f_X8_fault (h : TT) (x1 : Int32) (x2 : Int32) : Option (Int32 × TT) := (f_X8_isText h x1).bind fun r1 => (if r1 = 0 then some ((-1 : Int32), h) else if inb x1 4 = true then (if 0 ≤ (h.1 152 x1.toNatClampNeg) then (if x2 = 0 then (f_X8_snowFault h x1).bind fun q6 => some (q6.1, q6.2) else (f_X8_planFault h x1).bind fun q7 => some (q7.1, q7.2)) else (f_X8_meets h (1 : Int32)).bind fun q8 => some (q8.1, q8.2)) else none)
set_option maxRecDepth 20000 in
theorem m_X8_fault {l : Launch} {w : WK} {h : TT} {x1 : Int32} {x2 : Int32} {x : (Int32 × TT)} (hx : f_X8_fault h x1 x2 = some x)  : Met l yX8_fault (Cond.code yX8_fault cX8_fault 3 (some .int) :: wsG) { frames := 4, cells := 0, slots := 0, locals := 92 } (PG w [.ref (w.2.1 (147)), .int x1, .int x2] h) (QG w (fIT x)) 0 0 (AA w) := by
  refine m_entry (own := RX8) (f := fIT) hx (by decide) rfl (Nat.le_of_ble_eq_true rfl) (fun p e s m args below meth c C => ?_)
  show GO p l e _ s m args below meth c w 3 fIT (f_X8_fault h x1 x2) 0 [(0, .ref (w.2.1 (147))), (1, .int x1), (2, .int x2)] [] h
  unfold f_X8_fault
  refine g_iload_n (pc := 0) C 1 rfl dX8_fault_0 rfl ?_
  refine g_callI (pc := 1) (rest := []) (g_runS C ms_RX8_96 (fun x1 hx1 => m_X8_isText hx1) (by decide) rfl rfl (Nat.le_of_ble_eq_true rfl) dX8_fault_1) (fun r1 => ?_)
  refine g_if_ne (pc := 4) (tgt := 9) C dX8_fault_4 (by decide) (fun hc2 => ?_) (fun hc2 => ?_)
  · refine g_iconst (pc := 7) (v := -1) C dX8_fault_7 kc_m1 ?_
    exact g_iretT C dX8_fault_8
  · refine g_aload_n (pc := 9) C 0 rfl dX8_fault_9 rfl ?_
    refine g_get (pc := 10) C so_RX8 8 fl_RX8_22 (v := .ref (w.2.1 (152))) rfl dX8_fault_10 ?_
    refine g_iload_n (pc := 13) C 1 rfl dX8_fault_13 rfl ?_
    refine g_iald (pc := 14) C si_152 dX8_fault_14 (fun hb3 => ?_)
    refine g_if_ge (pc := 15) (tgt := 26) C dX8_fault_15 (by decide) (fun hc4 => ?_) (fun hc4 => ?_)
    · refine g_iload_n (pc := 26) C 2 rfl dX8_fault_26 rfl ?_
      refine g_if_eq (pc := 27) (tgt := 38) C dX8_fault_27 (by decide) (fun hc5 => ?_) (fun hc5 => ?_)
      · refine g_aload_n (pc := 38) C 0 rfl dX8_fault_38 rfl ?_
        refine g_iload_n (pc := 39) C 1 rfl dX8_fault_39 rfl ?_
        refine g_callIT (pc := 40) (rest := []) (g_runV C mv_RX8_133 (fun x1 hx1 => m_X8_snowFault hx1) so_RX8 rfl (by decide) rfl rfl (Nat.le_of_ble_eq_true rfl) dX8_fault_40) (fun q6 => ?_)
        exact g_iretT C dX8_fault_43
      · refine g_aload_n (pc := 30) C 0 rfl dX8_fault_30 rfl ?_
        refine g_iload_n (pc := 31) C 1 rfl dX8_fault_31 rfl ?_
        refine g_callIT (pc := 32) (rest := []) (g_runV C mv_RX8_130 (fun x1 hx1 => m_X8_planFault hx1) so_RX8 rfl (by decide) rfl rfl (Nat.le_of_ble_eq_true rfl) dX8_fault_32) (fun q7 => ?_)
        refine g_goto (pc := 35) (tgt := 43) C dX8_fault_35 (by decide) ?_
        exact g_iretT C dX8_fault_43
    · refine g_aload_n (pc := 18) C 0 rfl dX8_fault_18 rfl ?_
      refine g_iconst (pc := 19) (v := 1) C dX8_fault_19 kc_1 ?_
      refine g_callIT (pc := 20) (rest := []) (g_runV C mv_RX8_85 (fun x1 hx1 => m_X8_meets hx1) so_RX8 rfl (by decide) rfl rfl (Nat.le_of_ble_eq_true rfl) dX8_fault_20) (fun q8 => ?_)
      refine g_goto (pc := 23) (tgt := 43) C dX8_fault_23 (by decide) ?_
      exact g_iretT C dX8_fault_43
/-- SnowHouseModel.isPlace(I)Z -/
def f_X8_isPlace (h : TT) (x0 : Int32) : Option Int32 := (f_X8_in h x0 (0 : Int32) (3 : Int32)).bind fun r1 => if isZ r1 = true then some r1 else none
set_option maxRecDepth 20000 in
theorem m_X8_isPlace {l : Launch} {w : WK} {h : TT} {x0 : Int32} {x : Int32} (hx : f_X8_isPlace h x0 = some x)  : Met l yX8_isPlace (Cond.code yX8_isPlace cX8_isPlace 1 (some .boolean) :: wsG) { frames := 1, cells := 0, slots := 0, locals := 22 } (PG w [.int x0] h) (QG w ((fI h) x)) 0 0 (AA w) := by
  refine m_entry (own := RX8) (f := (fI h)) hx (by decide) rfl (Nat.le_of_ble_eq_true rfl) (fun p e s m args below meth c C => ?_)
  show GO p l e _ s m args below meth c w 1 (fI h) (f_X8_isPlace h x0) 0 [(0, .int x0)] [] h
  unfold f_X8_isPlace
  refine g_iload_n (pc := 0) C 0 rfl dX8_isPlace_0 rfl ?_
  refine g_iconst (pc := 1) (v := 0) C dX8_isPlace_1 kc_0 ?_
  refine g_iconst (pc := 2) (v := 3) C dX8_isPlace_2 kc_3 ?_
  refine g_callI (pc := 3) (rest := []) (g_runS C ms_RX8_71 (fun x1 hx1 => m_X8_in hx1) (by decide) rfl rfl (Nat.le_of_ble_eq_true rfl) dX8_isPlace_3) (fun r1 => ?_)
  refine g_guard (fun hz2 => ?_)
  exact g_zret C dX8_isPlace_6 hz2
/-- SnowHouseModel.snow(II)I -/
def f_X8_snow_46   : Nat → Int32 → Int32 → TT → Option (Int32 × TT)
  | 0, _, _, _ => none
  | n + 1, x1, x3, h => (if (4 : Int32) ≤ x3 then if inb x1 4 = true then nm (wr h 154 x1.toNatClampNeg (vp_nar .boolean (1 : Int32))) fun h11 => some (h11.1 147 16, h11) else none else if inb x3 4 = true then if inb (((4 : Int32) * x1) + x3) 16 = true then nm (wr h 155 (((4 : Int32) * x1) + x3).toNatClampNeg (h.1 158 x3.toNatClampNeg)) fun h14 => f_X8_snow_46 n x1 (x3 + (1 : Int32)) h14 else none else none)
set_option maxRecDepth 20000 in
theorem j_X8_snow_46 {p : Program} {l : Launch} {e : Env} {R : Room} {s : State} {m : MethodId} {args : Array Value} {below : List Frame} {meth : Method} {c : Code} {w : WK} (C : CX p R s m args meth c w RX8 cX8_snow 4 (some .int) 3 69)     : ∀ (n : Nat) (x1 : Int32) (x3 : Int32) (h : TT), GO p l e R s m args below meth c w 4 fIT (f_X8_snow_46 n x1 x3 h) 46 [(0, .ref (w.2.1 (147))), (1, .int x1), (3, .int x3)] [] h := by
  intro n
  induction n with
  | zero =>
    intro x1 x3 h
    exact g_none
  | succ n ih =>
    intro x1 x3 h
    rw [f_X8_snow_46]
    refine g_iload_n (pc := 46) C 2 rfl dX8_snow_46 rfl ?_
    refine g_iconst (pc := 47) (v := 4) C dX8_snow_47 kc_4 ?_
    refine g_icmp_ge (pc := 48) (tgt := 73) C dX8_snow_48 (by decide) (fun hc9 => ?_) (fun hc9 => ?_)
    · refine g_aload_n (pc := 73) C 0 rfl dX8_snow_73 rfl ?_
      refine g_get (pc := 74) C so_RX8 10 fl_RX8_29 (v := .ref (w.2.1 (154))) rfl dX8_snow_74 ?_
      refine g_iload_n (pc := 77) C 1 rfl dX8_snow_77 rfl ?_
      refine g_iconst (pc := 78) (v := 1) C dX8_snow_78 kc_1 ?_
      refine g_zast (pc := 79) C sz_154 dX8_snow_79 (fun hb10 => ?_)
      refine g_nm (fun h11 => ?_)
      refine g_aload_n (pc := 80) C 0 rfl dX8_snow_80 rfl ?_
      refine g_get (pc := 81) C so_RX8 16 fl_RX8_108 (v := .int (h11.1 147 16)) rfl dX8_snow_81 ?_
      exact g_iretT C dX8_snow_84
    · refine g_aload_n (pc := 51) C 0 rfl dX8_snow_51 rfl ?_
      refine g_get (pc := 52) C so_RX8 11 fl_RX8_33 (v := .ref (w.2.1 (155))) rfl dX8_snow_52 ?_
      refine g_iconst (pc := 55) (v := 4) C dX8_snow_55 kc_4 ?_
      refine g_iload_n (pc := 56) C 1 rfl dX8_snow_56 rfl ?_
      refine g_imul (pc := 57) C dX8_snow_57 ?_
      refine g_iload_n (pc := 58) C 2 rfl dX8_snow_58 rfl ?_
      refine g_iadd (pc := 59) C dX8_snow_59 ?_
      refine g_aload_n (pc := 60) C 0 rfl dX8_snow_60 rfl ?_
      refine g_get (pc := 61) C so_RX8 18 fl_RX8_42 (v := .ref (w.2.1 (158))) rfl dX8_snow_61 ?_
      refine g_iload_n (pc := 64) C 2 rfl dX8_snow_64 rfl ?_
      refine g_iald (pc := 65) C si_158 dX8_snow_65 (fun hb12 => ?_)
      refine g_iast (pc := 66) C si_155 dX8_snow_66 (fun hb13 => ?_)
      refine g_nm (fun h14 => ?_)
      refine g_iinc (pc := 67) C 2 rfl dX8_snow_67 (ki_1 _) (by decide) (lv' := [(3, .int (x3 + (1 : Int32))), (0, .ref (w.2.1 (147))), (1, .int x1)]) rfl ?_
      refine g_goto (pc := 70) (tgt := 46) C dX8_snow_70 (by decide) ?_
      refine g_lv (lv' := [(0, .ref (w.2.1 (147))), (1, .int x1), (3, .int (x3 + (1 : Int32)))]) [1, 2, 0] rfl ?_
      exact ih x1 (x3 + (1 : Int32)) h14
def f_X8_snow (h : TT) (x1 : Int32) (x2 : Int32) : Option (Int32 × TT) := (f_X8_isPlace h x1).bind fun r1 => (if r1 = 0 then some ((-1 : Int32), h) else (f_X8_isText h x2).bind fun r3 => (if r3 = 0 then some ((-1 : Int32), h) else if inb x2 4 = true then (if 0 ≤ (h.1 152 x2.toNatClampNeg) then (f_X8_snowFault h x2).bind fun q7 => (if q7.1 = (-9 : Int32) then f_X8_snow_46 KF x1 (0 : Int32) q7.2 else some ((-4 : Int32), q7.2)) else (f_X8_meets h (1 : Int32)).bind fun q15 => some (q15.1, q15.2)) else none))
set_option maxRecDepth 20000 in
theorem m_X8_snow {l : Launch} {w : WK} {h : TT} {x1 : Int32} {x2 : Int32} {x : (Int32 × TT)} (hx : f_X8_snow h x1 x2 = some x)  : Met l yX8_snow (Cond.code yX8_snow cX8_snow 4 (some .int) :: wsG) { frames := 3, cells := 0, slots := 0, locals := 69 } (PG w [.ref (w.2.1 (147)), .int x1, .int x2] h) (QG w (fIT x)) 0 0 (AA w) := by
  refine m_entry (own := RX8) (f := fIT) hx (by decide) rfl (Nat.le_of_ble_eq_true rfl) (fun p e s m args below meth c C => ?_)
  show GO p l e _ s m args below meth c w 4 fIT (f_X8_snow h x1 x2) 0 [(0, .ref (w.2.1 (147))), (1, .int x1), (2, .int x2)] [] h
  unfold f_X8_snow
  refine g_iload_n (pc := 0) C 1 rfl dX8_snow_0 rfl ?_
  refine g_callI (pc := 1) (rest := []) (g_runS C ms_RX8_136 (fun x1 hx1 => m_X8_isPlace hx1) (by decide) rfl rfl (Nat.le_of_ble_eq_true rfl) dX8_snow_1) (fun r1 => ?_)
  refine g_if_eq (pc := 4) (tgt := 14) C dX8_snow_4 (by decide) (fun hc2 => ?_) (fun hc2 => ?_)
  · refine g_iconst (pc := 14) (v := -1) C dX8_snow_14 kc_m1 ?_
    exact g_iretT C dX8_snow_15
  · refine g_iload_n (pc := 7) C 2 rfl dX8_snow_7 rfl ?_
    refine g_callI (pc := 8) (rest := []) (g_runS C ms_RX8_96 (fun x1 hx1 => m_X8_isText hx1) (by decide) rfl rfl (Nat.le_of_ble_eq_true rfl) dX8_snow_8) (fun r3 => ?_)
    refine g_if_ne (pc := 11) (tgt := 16) C dX8_snow_11 (by decide) (fun hc4 => ?_) (fun hc4 => ?_)
    · refine g_iconst (pc := 14) (v := -1) C dX8_snow_14 kc_m1 ?_
      exact g_iretT C dX8_snow_15
    · refine g_aload_n (pc := 16) C 0 rfl dX8_snow_16 rfl ?_
      refine g_get (pc := 17) C so_RX8 8 fl_RX8_22 (v := .ref (w.2.1 (152))) rfl dX8_snow_17 ?_
      refine g_iload_n (pc := 20) C 2 rfl dX8_snow_20 rfl ?_
      refine g_iald (pc := 21) C si_152 dX8_snow_21 (fun hb5 => ?_)
      refine g_if_ge (pc := 22) (tgt := 31) C dX8_snow_22 (by decide) (fun hc6 => ?_) (fun hc6 => ?_)
      · refine g_aload_n (pc := 31) C 0 rfl dX8_snow_31 rfl ?_
        refine g_iload_n (pc := 32) C 2 rfl dX8_snow_32 rfl ?_
        refine g_callIT (pc := 33) (rest := []) (g_runV C mv_RX8_133 (fun x1 hx1 => m_X8_snowFault hx1) so_RX8 rfl (by decide) rfl rfl (Nat.le_of_ble_eq_true rfl) dX8_snow_33) (fun q7 => ?_)
        refine g_bipush (pc := 36) (v := -9) C dX8_snow_36 kb_m9 ?_
        refine g_icmp_eq (pc := 38) (tgt := 44) C dX8_snow_38 (by decide) (fun hc8 => ?_) (fun hc8 => ?_)
        · refine g_iconst (pc := 44) (v := 0) C dX8_snow_44 kc_0 ?_
          refine g_istore_n (pc := 45) C dX8_snow_45 rfl (by decide) (lv' := [(3, .int (0 : Int32)), (0, .ref (w.2.1 (147))), (1, .int x1), (2, .int x2)]) rfl ?_
          refine g_lv (lv' := [(0, .ref (w.2.1 (147))), (1, .int x1), (3, .int (0 : Int32))]) [1, 2, 0] rfl ?_
          exact j_X8_snow_46 C KF x1 (0 : Int32) q7.2
        · refine g_bipush (pc := 41) (v := -4) C dX8_snow_41 kb_m4 ?_
          exact g_iretT C dX8_snow_43
      · refine g_aload_n (pc := 25) C 0 rfl dX8_snow_25 rfl ?_
        refine g_iconst (pc := 26) (v := 1) C dX8_snow_26 kc_1 ?_
        refine g_callIT (pc := 27) (rest := []) (g_runV C mv_RX8_85 (fun x1 hx1 => m_X8_meets hx1) so_RX8 rfl (by decide) rfl rfl (Nat.le_of_ble_eq_true rfl) dX8_snow_27) (fun q15 => ?_)
        exact g_iretT C dX8_snow_30
/-- SnowHouseModel.plan(II)I -/
def f_X8_plan_46   : Nat → Int32 → Int32 → TT → Option (Int32 × TT)
  | 0, _, _, _ => none
  | n + 1, x1, x3, h => (if (26 : Int32) ≤ x3 then if inb x1 4 = true then nm (wr h 156 x1.toNatClampNeg (vp_nar .boolean (1 : Int32))) fun h11 => some (h11.1 147 17, h11) else none else if inb x3 26 = true then if inb (((26 : Int32) * x1) + x3) 104 = true then nm (wr h 157 (((26 : Int32) * x1) + x3).toNatClampNeg (h.1 159 x3.toNatClampNeg)) fun h14 => f_X8_plan_46 n x1 (x3 + (1 : Int32)) h14 else none else none)
set_option maxRecDepth 20000 in
theorem j_X8_plan_46 {p : Program} {l : Launch} {e : Env} {R : Room} {s : State} {m : MethodId} {args : Array Value} {below : List Frame} {meth : Method} {c : Code} {w : WK} (C : CX p R s m args meth c w RX8 cX8_plan 4 (some .int) 4 92)     : ∀ (n : Nat) (x1 : Int32) (x3 : Int32) (h : TT), GO p l e R s m args below meth c w 4 fIT (f_X8_plan_46 n x1 x3 h) 46 [(0, .ref (w.2.1 (147))), (1, .int x1), (3, .int x3)] [] h := by
  intro n
  induction n with
  | zero =>
    intro x1 x3 h
    exact g_none
  | succ n ih =>
    intro x1 x3 h
    rw [f_X8_plan_46]
    refine g_iload_n (pc := 46) C 2 rfl dX8_plan_46 rfl ?_
    refine g_bipush (pc := 47) (v := 26) C dX8_plan_47 kb_26 ?_
    refine g_icmp_ge (pc := 49) (tgt := 75) C dX8_plan_49 (by decide) (fun hc9 => ?_) (fun hc9 => ?_)
    · refine g_aload_n (pc := 75) C 0 rfl dX8_plan_75 rfl ?_
      refine g_get (pc := 76) C so_RX8 12 fl_RX8_36 (v := .ref (w.2.1 (156))) rfl dX8_plan_76 ?_
      refine g_iload_n (pc := 79) C 1 rfl dX8_plan_79 rfl ?_
      refine g_iconst (pc := 80) (v := 1) C dX8_plan_80 kc_1 ?_
      refine g_zast (pc := 81) C sz_156 dX8_plan_81 (fun hb10 => ?_)
      refine g_nm (fun h11 => ?_)
      refine g_aload_n (pc := 82) C 0 rfl dX8_plan_82 rfl ?_
      refine g_get (pc := 83) C so_RX8 17 fl_RX8_124 (v := .int (h11.1 147 17)) rfl dX8_plan_83 ?_
      exact g_iretT C dX8_plan_86
    · refine g_aload_n (pc := 52) C 0 rfl dX8_plan_52 rfl ?_
      refine g_get (pc := 53) C so_RX8 13 fl_RX8_39 (v := .ref (w.2.1 (157))) rfl dX8_plan_53 ?_
      refine g_bipush (pc := 56) (v := 26) C dX8_plan_56 kb_26 ?_
      refine g_iload_n (pc := 58) C 1 rfl dX8_plan_58 rfl ?_
      refine g_imul (pc := 59) C dX8_plan_59 ?_
      refine g_iload_n (pc := 60) C 2 rfl dX8_plan_60 rfl ?_
      refine g_iadd (pc := 61) C dX8_plan_61 ?_
      refine g_aload_n (pc := 62) C 0 rfl dX8_plan_62 rfl ?_
      refine g_get (pc := 63) C so_RX8 19 fl_RX8_45 (v := .ref (w.2.1 (159))) rfl dX8_plan_63 ?_
      refine g_iload_n (pc := 66) C 2 rfl dX8_plan_66 rfl ?_
      refine g_iald (pc := 67) C si_159 dX8_plan_67 (fun hb12 => ?_)
      refine g_iast (pc := 68) C si_157 dX8_plan_68 (fun hb13 => ?_)
      refine g_nm (fun h14 => ?_)
      refine g_iinc (pc := 69) C 2 rfl dX8_plan_69 (ki_1 _) (by decide) (lv' := [(3, .int (x3 + (1 : Int32))), (0, .ref (w.2.1 (147))), (1, .int x1)]) rfl ?_
      refine g_goto (pc := 72) (tgt := 46) C dX8_plan_72 (by decide) ?_
      refine g_lv (lv' := [(0, .ref (w.2.1 (147))), (1, .int x1), (3, .int (x3 + (1 : Int32)))]) [1, 2, 0] rfl ?_
      exact ih x1 (x3 + (1 : Int32)) h14
def f_X8_plan (h : TT) (x1 : Int32) (x2 : Int32) : Option (Int32 × TT) := (f_X8_isPlace h x1).bind fun r1 => (if r1 = 0 then some ((-1 : Int32), h) else (f_X8_isText h x2).bind fun r3 => (if r3 = 0 then some ((-1 : Int32), h) else if inb x2 4 = true then (if 0 ≤ (h.1 152 x2.toNatClampNeg) then (f_X8_planFault h x2).bind fun q7 => (if q7.1 = (-9 : Int32) then f_X8_plan_46 KF x1 (0 : Int32) q7.2 else some ((-4 : Int32), q7.2)) else (f_X8_meets h (1 : Int32)).bind fun q15 => some (q15.1, q15.2)) else none))
set_option maxRecDepth 20000 in
theorem m_X8_plan {l : Launch} {w : WK} {h : TT} {x1 : Int32} {x2 : Int32} {x : (Int32 × TT)} (hx : f_X8_plan h x1 x2 = some x)  : Met l yX8_plan (Cond.code yX8_plan cX8_plan 4 (some .int) :: wsG) { frames := 4, cells := 0, slots := 0, locals := 92 } (PG w [.ref (w.2.1 (147)), .int x1, .int x2] h) (QG w (fIT x)) 0 0 (AA w) := by
  refine m_entry (own := RX8) (f := fIT) hx (by decide) rfl (Nat.le_of_ble_eq_true rfl) (fun p e s m args below meth c C => ?_)
  show GO p l e _ s m args below meth c w 4 fIT (f_X8_plan h x1 x2) 0 [(0, .ref (w.2.1 (147))), (1, .int x1), (2, .int x2)] [] h
  unfold f_X8_plan
  refine g_iload_n (pc := 0) C 1 rfl dX8_plan_0 rfl ?_
  refine g_callI (pc := 1) (rest := []) (g_runS C ms_RX8_136 (fun x1 hx1 => m_X8_isPlace hx1) (by decide) rfl rfl (Nat.le_of_ble_eq_true rfl) dX8_plan_1) (fun r1 => ?_)
  refine g_if_eq (pc := 4) (tgt := 14) C dX8_plan_4 (by decide) (fun hc2 => ?_) (fun hc2 => ?_)
  · refine g_iconst (pc := 14) (v := -1) C dX8_plan_14 kc_m1 ?_
    exact g_iretT C dX8_plan_15
  · refine g_iload_n (pc := 7) C 2 rfl dX8_plan_7 rfl ?_
    refine g_callI (pc := 8) (rest := []) (g_runS C ms_RX8_96 (fun x1 hx1 => m_X8_isText hx1) (by decide) rfl rfl (Nat.le_of_ble_eq_true rfl) dX8_plan_8) (fun r3 => ?_)
    refine g_if_ne (pc := 11) (tgt := 16) C dX8_plan_11 (by decide) (fun hc4 => ?_) (fun hc4 => ?_)
    · refine g_iconst (pc := 14) (v := -1) C dX8_plan_14 kc_m1 ?_
      exact g_iretT C dX8_plan_15
    · refine g_aload_n (pc := 16) C 0 rfl dX8_plan_16 rfl ?_
      refine g_get (pc := 17) C so_RX8 8 fl_RX8_22 (v := .ref (w.2.1 (152))) rfl dX8_plan_17 ?_
      refine g_iload_n (pc := 20) C 2 rfl dX8_plan_20 rfl ?_
      refine g_iald (pc := 21) C si_152 dX8_plan_21 (fun hb5 => ?_)
      refine g_if_ge (pc := 22) (tgt := 31) C dX8_plan_22 (by decide) (fun hc6 => ?_) (fun hc6 => ?_)
      · refine g_aload_n (pc := 31) C 0 rfl dX8_plan_31 rfl ?_
        refine g_iload_n (pc := 32) C 2 rfl dX8_plan_32 rfl ?_
        refine g_callIT (pc := 33) (rest := []) (g_runV C mv_RX8_130 (fun x1 hx1 => m_X8_planFault hx1) so_RX8 rfl (by decide) rfl rfl (Nat.le_of_ble_eq_true rfl) dX8_plan_33) (fun q7 => ?_)
        refine g_bipush (pc := 36) (v := -9) C dX8_plan_36 kb_m9 ?_
        refine g_icmp_eq (pc := 38) (tgt := 44) C dX8_plan_38 (by decide) (fun hc8 => ?_) (fun hc8 => ?_)
        · refine g_iconst (pc := 44) (v := 0) C dX8_plan_44 kc_0 ?_
          refine g_istore_n (pc := 45) C dX8_plan_45 rfl (by decide) (lv' := [(3, .int (0 : Int32)), (0, .ref (w.2.1 (147))), (1, .int x1), (2, .int x2)]) rfl ?_
          refine g_lv (lv' := [(0, .ref (w.2.1 (147))), (1, .int x1), (3, .int (0 : Int32))]) [1, 2, 0] rfl ?_
          exact j_X8_plan_46 C KF x1 (0 : Int32) q7.2
        · refine g_bipush (pc := 41) (v := -4) C dX8_plan_41 kb_m4 ?_
          exact g_iretT C dX8_plan_43
      · refine g_aload_n (pc := 25) C 0 rfl dX8_plan_25 rfl ?_
        refine g_iconst (pc := 26) (v := 1) C dX8_plan_26 kc_1 ?_
        refine g_callIT (pc := 27) (rest := []) (g_runV C mv_RX8_85 (fun x1 hx1 => m_X8_meets hx1) so_RX8 rfl (by decide) rfl rfl (Nat.le_of_ble_eq_true rfl) dX8_plan_27) (fun q15 => ?_)
        exact g_iretT C dX8_plan_30
/-- SnowHouseModel.about(II)I -/
def f_X8_about (h : TT) (x1 : Int32) (x2 : Int32) : Option (Int32 × TT) := (f_X8_isPlace h x1).bind fun r1 => (if r1 = 0 then some ((-1 : Int32), h) else (f_X8_in h x2 (0 : Int32) (3 : Int32)).bind fun r3 => (if r3 = 0 then some ((-1 : Int32), h) else if inb x1 4 = true then (if (h.1 154 x1.toNatClampNeg) = 0 then (f_X8_meets h (1 : Int32)).bind fun q7 => some (q7.1, q7.2) else if inb (((4 : Int32) * x1) + x2) 16 = true then (f_X8_tellsBy h (h.1 155 (((4 : Int32) * x1) + x2).toNatClampNeg) (1 : Int32)).bind fun q9 => some (q9.1, q9.2) else none) else none))
set_option maxRecDepth 20000 in
theorem m_X8_about {l : Launch} {w : WK} {h : TT} {x1 : Int32} {x2 : Int32} {x : (Int32 × TT)} (hx : f_X8_about h x1 x2 = some x)  : Met l yX8_about (Cond.code yX8_about cX8_about 3 (some .int) :: wsG) { frames := 2, cells := 0, slots := 0, locals := 42 } (PG w [.ref (w.2.1 (147)), .int x1, .int x2] h) (QG w (fIT x)) 0 0 (AA w) := by
  refine m_entry (own := RX8) (f := fIT) hx (by decide) rfl (Nat.le_of_ble_eq_true rfl) (fun p e s m args below meth c C => ?_)
  show GO p l e _ s m args below meth c w 3 fIT (f_X8_about h x1 x2) 0 [(0, .ref (w.2.1 (147))), (1, .int x1), (2, .int x2)] [] h
  unfold f_X8_about
  refine g_iload_n (pc := 0) C 1 rfl dX8_about_0 rfl ?_
  refine g_callI (pc := 1) (rest := []) (g_runS C ms_RX8_136 (fun x1 hx1 => m_X8_isPlace hx1) (by decide) rfl rfl (Nat.le_of_ble_eq_true rfl) dX8_about_1) (fun r1 => ?_)
  refine g_if_eq (pc := 4) (tgt := 16) C dX8_about_4 (by decide) (fun hc2 => ?_) (fun hc2 => ?_)
  · refine g_iconst (pc := 16) (v := -1) C dX8_about_16 kc_m1 ?_
    exact g_iretT C dX8_about_17
  · refine g_iload_n (pc := 7) C 2 rfl dX8_about_7 rfl ?_
    refine g_iconst (pc := 8) (v := 0) C dX8_about_8 kc_0 ?_
    refine g_iconst (pc := 9) (v := 3) C dX8_about_9 kc_3 ?_
    refine g_callI (pc := 10) (rest := []) (g_runS C ms_RX8_71 (fun x1 hx1 => m_X8_in hx1) (by decide) rfl rfl (Nat.le_of_ble_eq_true rfl) dX8_about_10) (fun r3 => ?_)
    refine g_if_ne (pc := 13) (tgt := 18) C dX8_about_13 (by decide) (fun hc4 => ?_) (fun hc4 => ?_)
    · refine g_iconst (pc := 16) (v := -1) C dX8_about_16 kc_m1 ?_
      exact g_iretT C dX8_about_17
    · refine g_aload_n (pc := 18) C 0 rfl dX8_about_18 rfl ?_
      refine g_get (pc := 19) C so_RX8 10 fl_RX8_29 (v := .ref (w.2.1 (154))) rfl dX8_about_19 ?_
      refine g_iload_n (pc := 22) C 1 rfl dX8_about_22 rfl ?_
      refine g_zald (pc := 23) C sz_154 dX8_about_23 (fun hb5 => ?_)
      refine g_if_eq (pc := 24) (tgt := 45) C dX8_about_24 (by decide) (fun hc6 => ?_) (fun hc6 => ?_)
      · refine g_aload_n (pc := 45) C 0 rfl dX8_about_45 rfl ?_
        refine g_iconst (pc := 46) (v := 1) C dX8_about_46 kc_1 ?_
        refine g_callIT (pc := 47) (rest := []) (g_runV C mv_RX8_85 (fun x1 hx1 => m_X8_meets hx1) so_RX8 rfl (by decide) rfl rfl (Nat.le_of_ble_eq_true rfl) dX8_about_47) (fun q7 => ?_)
        exact g_iretT C dX8_about_50
      · refine g_aload_n (pc := 27) C 0 rfl dX8_about_27 rfl ?_
        refine g_aload_n (pc := 28) C 0 rfl dX8_about_28 rfl ?_
        refine g_get (pc := 29) C so_RX8 11 fl_RX8_33 (v := .ref (w.2.1 (155))) rfl dX8_about_29 ?_
        refine g_iconst (pc := 32) (v := 4) C dX8_about_32 kc_4 ?_
        refine g_iload_n (pc := 33) C 1 rfl dX8_about_33 rfl ?_
        refine g_imul (pc := 34) C dX8_about_34 ?_
        refine g_iload_n (pc := 35) C 2 rfl dX8_about_35 rfl ?_
        refine g_iadd (pc := 36) C dX8_about_36 ?_
        refine g_iald (pc := 37) C si_155 dX8_about_37 (fun hb8 => ?_)
        refine g_iconst (pc := 38) (v := 1) C dX8_about_38 kc_1 ?_
        refine g_callIT (pc := 39) (rest := []) (g_runV C mv_RX8_93 (fun x1 hx1 => m_X8_tellsBy hx1) so_RX8 rfl (by decide) rfl rfl (Nat.le_of_ble_eq_true rfl) dX8_about_39) (fun q9 => ?_)
        refine g_goto (pc := 42) (tgt := 50) C dX8_about_42 (by decide) ?_
        exact g_iretT C dX8_about_50
/-- SnowHouseModel.planBlocks(I)I -/
def f_X8_planBlocks_4 (h : TT)   : Nat → Int32 → Int32 → Int32 → Option Int32
  | 0, _, _, _ => none
  | n + 1, x1, x2, x3 => if inb ((26 : Int32) * x1) 104 = true then (if (h.1 157 ((26 : Int32) * x1).toNatClampNeg) ≤ x3 then some x2 else if inb ((((26 : Int32) * x1) + (3 : Int32)) + ((3 : Int32) * x3)) 104 = true then nm (x2 + (h.1 157 ((((26 : Int32) * x1) + (3 : Int32)) + ((3 : Int32) * x3)).toNatClampNeg)) fun y4 => f_X8_planBlocks_4 h n x1 y4 (x3 + (1 : Int32)) else none) else none
set_option maxRecDepth 20000 in
theorem j_X8_planBlocks_4 {p : Program} {l : Launch} {e : Env} {R : Room} {s : State} {m : MethodId} {args : Array Value} {below : List Frame} {meth : Method} {c : Code} {w : WK} (C : CX p R s m args meth c w RX8 cX8_planBlocks 4 (some .int) 0 0) (h : TT)    : ∀ (n : Nat) (x1 : Int32) (x2 : Int32) (x3 : Int32), GO p l e R s m args below meth c w 4 (fI h) (f_X8_planBlocks_4 h n x1 x2 x3) 4 [(0, .ref (w.2.1 (147))), (1, .int x1), (2, .int x2), (3, .int x3)] [] h := by
  intro n
  induction n with
  | zero =>
    intro x1 x2 x3
    exact g_none
  | succ n ih =>
    intro x1 x2 x3
    rw [f_X8_planBlocks_4]
    refine g_iload_n (pc := 4) C 3 rfl dX8_planBlocks_4 rfl ?_
    refine g_aload_n (pc := 5) C 0 rfl dX8_planBlocks_5 rfl ?_
    refine g_get (pc := 6) C so_RX8 13 fl_RX8_39 (v := .ref (w.2.1 (157))) rfl dX8_planBlocks_6 ?_
    refine g_bipush (pc := 9) (v := 26) C dX8_planBlocks_9 kb_26 ?_
    refine g_iload_n (pc := 11) C 1 rfl dX8_planBlocks_11 rfl ?_
    refine g_imul (pc := 12) C dX8_planBlocks_12 ?_
    refine g_iald (pc := 13) C si_157 dX8_planBlocks_13 (fun hb1 => ?_)
    refine g_icmp_ge (pc := 14) (tgt := 41) C dX8_planBlocks_14 (by decide) (fun hc2 => ?_) (fun hc2 => ?_)
    · refine g_iload_n (pc := 41) C 2 rfl dX8_planBlocks_41 rfl ?_
      exact g_iret C dX8_planBlocks_42
    · refine g_iload_n (pc := 17) C 2 rfl dX8_planBlocks_17 rfl ?_
      refine g_aload_n (pc := 18) C 0 rfl dX8_planBlocks_18 rfl ?_
      refine g_get (pc := 19) C so_RX8 13 fl_RX8_39 (v := .ref (w.2.1 (157))) rfl dX8_planBlocks_19 ?_
      refine g_bipush (pc := 22) (v := 26) C dX8_planBlocks_22 kb_26 ?_
      refine g_iload_n (pc := 24) C 1 rfl dX8_planBlocks_24 rfl ?_
      refine g_imul (pc := 25) C dX8_planBlocks_25 ?_
      refine g_iconst (pc := 26) (v := 3) C dX8_planBlocks_26 kc_3 ?_
      refine g_iadd (pc := 27) C dX8_planBlocks_27 ?_
      refine g_iconst (pc := 28) (v := 3) C dX8_planBlocks_28 kc_3 ?_
      refine g_iload_n (pc := 29) C 3 rfl dX8_planBlocks_29 rfl ?_
      refine g_imul (pc := 30) C dX8_planBlocks_30 ?_
      refine g_iadd (pc := 31) C dX8_planBlocks_31 ?_
      refine g_iald (pc := 32) C si_157 dX8_planBlocks_32 (fun hb3 => ?_)
      refine g_iadd (pc := 33) C dX8_planBlocks_33 ?_
      refine g_nmi (fun y4 => ?_)
      refine g_istore_n (pc := 34) C dX8_planBlocks_34 rfl (by decide) (lv' := [(2, .int y4), (0, .ref (w.2.1 (147))), (1, .int x1), (3, .int x3)]) rfl ?_
      refine g_iinc (pc := 35) C 3 rfl dX8_planBlocks_35 (ki_1 _) (by decide) (lv' := [(3, .int (x3 + (1 : Int32))), (2, .int y4), (0, .ref (w.2.1 (147))), (1, .int x1)]) rfl ?_
      refine g_goto (pc := 38) (tgt := 4) C dX8_planBlocks_38 (by decide) ?_
      refine g_lv (lv' := [(0, .ref (w.2.1 (147))), (1, .int x1), (2, .int y4), (3, .int (x3 + (1 : Int32)))]) [2, 3, 1, 0] rfl ?_
      exact ih x1 y4 (x3 + (1 : Int32))
def f_X8_planBlocks (h : TT) (x1 : Int32) : Option Int32 := f_X8_planBlocks_4 h KF x1 (0 : Int32) (0 : Int32)
set_option maxRecDepth 20000 in
theorem m_X8_planBlocks {l : Launch} {w : WK} {h : TT} {x1 : Int32} {x : Int32} (hx : f_X8_planBlocks h x1 = some x)  : Met l yX8_planBlocks (Cond.code yX8_planBlocks cX8_planBlocks 4 (some .int) :: wsG) { frames := 0, cells := 0, slots := 0, locals := 0 } (PG w [.ref (w.2.1 (147)), .int x1] h) (QG w ((fI h) x)) 0 0 (AA w) := by
  refine m_entry (own := RX8) (f := (fI h)) hx (by decide) rfl (Nat.le_of_ble_eq_true rfl) (fun p e s m args below meth c C => ?_)
  show GO p l e _ s m args below meth c w 4 (fI h) (f_X8_planBlocks h x1) 0 [(0, .ref (w.2.1 (147))), (1, .int x1)] [] h
  unfold f_X8_planBlocks
  refine g_iconst (pc := 0) (v := 0) C dX8_planBlocks_0 kc_0 ?_
  refine g_istore_n (pc := 1) C dX8_planBlocks_1 rfl (by decide) (lv' := [(2, .int (0 : Int32)), (0, .ref (w.2.1 (147))), (1, .int x1)]) rfl ?_
  refine g_iconst (pc := 2) (v := 0) C dX8_planBlocks_2 kc_0 ?_
  refine g_istore_n (pc := 3) C dX8_planBlocks_3 rfl (by decide) (lv' := [(3, .int (0 : Int32)), (2, .int (0 : Int32)), (0, .ref (w.2.1 (147))), (1, .int x1)]) rfl ?_
  refine g_lv (lv' := [(0, .ref (w.2.1 (147))), (1, .int x1), (2, .int (0 : Int32)), (3, .int (0 : Int32))]) [2, 3, 1, 0] rfl ?_
  exact j_X8_planBlocks_4 C h KF x1 (0 : Int32) (0 : Int32)
/-- SnowHouseModel.planPlaces(I)I -/
def f_X8_planPlaces (h : TT) (x1 : Int32) : Option Int32 := if inb (((26 : Int32) * x1) + (3 : Int32)) 104 = true then some ((h.1 157 (((26 : Int32) * x1) + (3 : Int32)).toNatClampNeg) / (2 : Int32)) else none
set_option maxRecDepth 20000 in
theorem m_X8_planPlaces {l : Launch} {w : WK} {h : TT} {x1 : Int32} {x : Int32} (hx : f_X8_planPlaces h x1 = some x)  : Met l yX8_planPlaces (Cond.code yX8_planPlaces cX8_planPlaces 2 (some .int) :: wsG) { frames := 0, cells := 0, slots := 0, locals := 0 } (PG w [.ref (w.2.1 (147)), .int x1] h) (QG w ((fI h) x)) 0 0 (AA w) := by
  refine m_entry (own := RX8) (f := (fI h)) hx (by decide) rfl (Nat.le_of_ble_eq_true rfl) (fun p e s m args below meth c C => ?_)
  show GO p l e _ s m args below meth c w 2 (fI h) (f_X8_planPlaces h x1) 0 [(0, .ref (w.2.1 (147))), (1, .int x1)] [] h
  unfold f_X8_planPlaces
  refine g_aload_n (pc := 0) C 0 rfl dX8_planPlaces_0 rfl ?_
  refine g_get (pc := 1) C so_RX8 13 fl_RX8_39 (v := .ref (w.2.1 (157))) rfl dX8_planPlaces_1 ?_
  refine g_bipush (pc := 4) (v := 26) C dX8_planPlaces_4 kb_26 ?_
  refine g_iload_n (pc := 6) C 1 rfl dX8_planPlaces_6 rfl ?_
  refine g_imul (pc := 7) C dX8_planPlaces_7 ?_
  refine g_iconst (pc := 8) (v := 3) C dX8_planPlaces_8 kc_3 ?_
  refine g_iadd (pc := 9) C dX8_planPlaces_9 ?_
  refine g_iald (pc := 10) C si_157 dX8_planPlaces_10 (fun hb1 => ?_)
  refine g_iconst (pc := 11) (v := 2) C dX8_planPlaces_11 kc_2 ?_
  refine g_idiv (pc := 12) C dX8_planPlaces_12 (by decide) ?_
  exact g_iret C dX8_planPlaces_13
/-- SnowHouseModel.planTells(II)I -/
def f_X8_planTells (h : TT) (x1 : Int32) (x2 : Int32) : Option Int32 := (if (2 : Int32) ≤ x2 then (if x2 = (2 : Int32) then (f_X8_planBlocks h x1).bind fun r3 => some r3 else (f_X8_planPlaces h x1).bind fun r4 => some r4) else if inb (((26 : Int32) * x1) + x2) 104 = true then some (h.1 157 (((26 : Int32) * x1) + x2).toNatClampNeg) else none)
set_option maxRecDepth 20000 in
theorem m_X8_planTells {l : Launch} {w : WK} {h : TT} {x1 : Int32} {x2 : Int32} {x : Int32} (hx : f_X8_planTells h x1 x2 = some x)  : Met l yX8_planTells (Cond.code yX8_planTells cX8_planTells 3 (some .int) :: wsG) { frames := 1, cells := 0, slots := 0, locals := 23 } (PG w [.ref (w.2.1 (147)), .int x1, .int x2] h) (QG w ((fI h) x)) 0 0 (AA w) := by
  refine m_entry (own := RX8) (f := (fI h)) hx (by decide) rfl (Nat.le_of_ble_eq_true rfl) (fun p e s m args below meth c C => ?_)
  show GO p l e _ s m args below meth c w 3 (fI h) (f_X8_planTells h x1 x2) 0 [(0, .ref (w.2.1 (147))), (1, .int x1), (2, .int x2)] [] h
  unfold f_X8_planTells
  refine g_iload_n (pc := 0) C 2 rfl dX8_planTells_0 rfl ?_
  refine g_iconst (pc := 1) (v := 2) C dX8_planTells_1 kc_2 ?_
  refine g_icmp_ge (pc := 2) (tgt := 19) C dX8_planTells_2 (by decide) (fun hc1 => ?_) (fun hc1 => ?_)
  · refine g_iload_n (pc := 19) C 2 rfl dX8_planTells_19 rfl ?_
    refine g_iconst (pc := 20) (v := 2) C dX8_planTells_20 kc_2 ?_
    refine g_icmp_ne (pc := 21) (tgt := 32) C dX8_planTells_21 (by decide) (fun hc2 => ?_) (fun hc2 => ?_)
    · refine g_aload_n (pc := 24) C 0 rfl dX8_planTells_24 rfl ?_
      refine g_iload_n (pc := 25) C 1 rfl dX8_planTells_25 rfl ?_
      refine g_callI (pc := 26) (rest := []) (g_runV C mv_RX8_139 (fun x1 hx1 => m_X8_planBlocks hx1) so_RX8 rfl (by decide) rfl rfl (Nat.le_of_ble_eq_true rfl) dX8_planTells_26) (fun r3 => ?_)
      refine g_goto (pc := 29) (tgt := 37) C dX8_planTells_29 (by decide) ?_
      exact g_iret C dX8_planTells_37
    · refine g_aload_n (pc := 32) C 0 rfl dX8_planTells_32 rfl ?_
      refine g_iload_n (pc := 33) C 1 rfl dX8_planTells_33 rfl ?_
      refine g_callI (pc := 34) (rest := []) (g_runV C mv_RX8_142 (fun x1 hx1 => m_X8_planPlaces hx1) so_RX8 rfl (by decide) rfl rfl (Nat.le_of_ble_eq_true rfl) dX8_planTells_34) (fun r4 => ?_)
      exact g_iret C dX8_planTells_37
  · refine g_aload_n (pc := 5) C 0 rfl dX8_planTells_5 rfl ?_
    refine g_get (pc := 6) C so_RX8 13 fl_RX8_39 (v := .ref (w.2.1 (157))) rfl dX8_planTells_6 ?_
    refine g_bipush (pc := 9) (v := 26) C dX8_planTells_9 kb_26 ?_
    refine g_iload_n (pc := 11) C 1 rfl dX8_planTells_11 rfl ?_
    refine g_imul (pc := 12) C dX8_planTells_12 ?_
    refine g_iload_n (pc := 13) C 2 rfl dX8_planTells_13 rfl ?_
    refine g_iadd (pc := 14) C dX8_planTells_14 ?_
    refine g_iald (pc := 15) C si_157 dX8_planTells_15 (fun hb5 => ?_)
    refine g_goto (pc := 16) (tgt := 37) C dX8_planTells_16 (by decide) ?_
    exact g_iret C dX8_planTells_37
/-- SnowHouseModel.tells(II)I -/
def f_X8_tells (h : TT) (x1 : Int32) (x2 : Int32) : Option (Int32 × TT) := (f_X8_isPlace h x1).bind fun r1 => (if r1 = 0 then some ((-1 : Int32), h) else (f_X8_in h x2 (0 : Int32) (3 : Int32)).bind fun r3 => (if r3 = 0 then some ((-1 : Int32), h) else if inb x1 4 = true then (if (h.1 156 x1.toNatClampNeg) = 0 then (f_X8_meets h (1 : Int32)).bind fun q7 => some (q7.1, q7.2) else (f_X8_planTells h x1 x2).bind fun r8 => (f_X8_tellsBy h r8 (1 : Int32)).bind fun q9 => some (q9.1, q9.2)) else none))
set_option maxRecDepth 20000 in
theorem m_X8_tells {l : Launch} {w : WK} {h : TT} {x1 : Int32} {x2 : Int32} {x : (Int32 × TT)} (hx : f_X8_tells h x1 x2 = some x)  : Met l yX8_tells (Cond.code yX8_tells cX8_tells 3 (some .int) :: wsG) { frames := 2, cells := 0, slots := 0, locals := 45 } (PG w [.ref (w.2.1 (147)), .int x1, .int x2] h) (QG w (fIT x)) 0 0 (AA w) := by
  refine m_entry (own := RX8) (f := fIT) hx (by decide) rfl (Nat.le_of_ble_eq_true rfl) (fun p e s m args below meth c C => ?_)
  show GO p l e _ s m args below meth c w 3 fIT (f_X8_tells h x1 x2) 0 [(0, .ref (w.2.1 (147))), (1, .int x1), (2, .int x2)] [] h
  unfold f_X8_tells
  refine g_iload_n (pc := 0) C 1 rfl dX8_tells_0 rfl ?_
  refine g_callI (pc := 1) (rest := []) (g_runS C ms_RX8_136 (fun x1 hx1 => m_X8_isPlace hx1) (by decide) rfl rfl (Nat.le_of_ble_eq_true rfl) dX8_tells_1) (fun r1 => ?_)
  refine g_if_eq (pc := 4) (tgt := 16) C dX8_tells_4 (by decide) (fun hc2 => ?_) (fun hc2 => ?_)
  · refine g_iconst (pc := 16) (v := -1) C dX8_tells_16 kc_m1 ?_
    exact g_iretT C dX8_tells_17
  · refine g_iload_n (pc := 7) C 2 rfl dX8_tells_7 rfl ?_
    refine g_iconst (pc := 8) (v := 0) C dX8_tells_8 kc_0 ?_
    refine g_iconst (pc := 9) (v := 3) C dX8_tells_9 kc_3 ?_
    refine g_callI (pc := 10) (rest := []) (g_runS C ms_RX8_71 (fun x1 hx1 => m_X8_in hx1) (by decide) rfl rfl (Nat.le_of_ble_eq_true rfl) dX8_tells_10) (fun r3 => ?_)
    refine g_if_ne (pc := 13) (tgt := 18) C dX8_tells_13 (by decide) (fun hc4 => ?_) (fun hc4 => ?_)
    · refine g_iconst (pc := 16) (v := -1) C dX8_tells_16 kc_m1 ?_
      exact g_iretT C dX8_tells_17
    · refine g_aload_n (pc := 18) C 0 rfl dX8_tells_18 rfl ?_
      refine g_get (pc := 19) C so_RX8 12 fl_RX8_36 (v := .ref (w.2.1 (156))) rfl dX8_tells_19 ?_
      refine g_iload_n (pc := 22) C 1 rfl dX8_tells_22 rfl ?_
      refine g_zald (pc := 23) C sz_156 dX8_tells_23 (fun hb5 => ?_)
      refine g_if_eq (pc := 24) (tgt := 41) C dX8_tells_24 (by decide) (fun hc6 => ?_) (fun hc6 => ?_)
      · refine g_aload_n (pc := 41) C 0 rfl dX8_tells_41 rfl ?_
        refine g_iconst (pc := 42) (v := 1) C dX8_tells_42 kc_1 ?_
        refine g_callIT (pc := 43) (rest := []) (g_runV C mv_RX8_85 (fun x1 hx1 => m_X8_meets hx1) so_RX8 rfl (by decide) rfl rfl (Nat.le_of_ble_eq_true rfl) dX8_tells_43) (fun q7 => ?_)
        exact g_iretT C dX8_tells_46
      · refine g_aload_n (pc := 27) C 0 rfl dX8_tells_27 rfl ?_
        refine g_aload_n (pc := 28) C 0 rfl dX8_tells_28 rfl ?_
        refine g_iload_n (pc := 29) C 1 rfl dX8_tells_29 rfl ?_
        refine g_iload_n (pc := 30) C 2 rfl dX8_tells_30 rfl ?_
        refine g_callI (pc := 31) (rest := [.ref (w.2.1 (147))]) (g_runV C mv_RX8_145 (fun x1 hx1 => m_X8_planTells hx1) so_RX8 rfl (by decide) rfl rfl (Nat.le_of_ble_eq_true rfl) dX8_tells_31) (fun r8 => ?_)
        refine g_iconst (pc := 34) (v := 1) C dX8_tells_34 kc_1 ?_
        refine g_callIT (pc := 35) (rest := []) (g_runV C mv_RX8_93 (fun x1 hx1 => m_X8_tellsBy hx1) so_RX8 rfl (by decide) rfl rfl (Nat.le_of_ble_eq_true rfl) dX8_tells_35) (fun q9 => ?_)
        refine g_goto (pc := 38) (tgt := 46) C dX8_tells_38 (by decide) ?_
        exact g_iretT C dX8_tells_46
/-- SnowHouseModel.courseTells(II)I -/
def f_X8_courseTells (h : TT) (x1 : Int32) (x2 : Int32) : Option Int32 := if inb ((((26 : Int32) * x1) + (3 : Int32)) + ((3 : Int32) * x2)) 104 = true then if inb ((((26 : Int32) * x1) + (4 : Int32)) + ((3 : Int32) * x2)) 104 = true then some (((10 : Int32) * (h.1 157 ((((26 : Int32) * x1) + (3 : Int32)) + ((3 : Int32) * x2)).toNatClampNeg)) + (h.1 157 ((((26 : Int32) * x1) + (4 : Int32)) + ((3 : Int32) * x2)).toNatClampNeg)) else none else none
set_option maxRecDepth 20000 in
theorem m_X8_courseTells {l : Launch} {w : WK} {h : TT} {x1 : Int32} {x2 : Int32} {x : Int32} (hx : f_X8_courseTells h x1 x2 = some x)  : Met l yX8_courseTells (Cond.code yX8_courseTells cX8_courseTells 3 (some .int) :: wsG) { frames := 0, cells := 0, slots := 0, locals := 0 } (PG w [.ref (w.2.1 (147)), .int x1, .int x2] h) (QG w ((fI h) x)) 0 0 (AA w) := by
  refine m_entry (own := RX8) (f := (fI h)) hx (by decide) rfl (Nat.le_of_ble_eq_true rfl) (fun p e s m args below meth c C => ?_)
  show GO p l e _ s m args below meth c w 3 (fI h) (f_X8_courseTells h x1 x2) 0 [(0, .ref (w.2.1 (147))), (1, .int x1), (2, .int x2)] [] h
  unfold f_X8_courseTells
  refine g_bipush (pc := 0) (v := 10) C dX8_courseTells_0 kb_10 ?_
  refine g_aload_n (pc := 2) C 0 rfl dX8_courseTells_2 rfl ?_
  refine g_get (pc := 3) C so_RX8 13 fl_RX8_39 (v := .ref (w.2.1 (157))) rfl dX8_courseTells_3 ?_
  refine g_bipush (pc := 6) (v := 26) C dX8_courseTells_6 kb_26 ?_
  refine g_iload_n (pc := 8) C 1 rfl dX8_courseTells_8 rfl ?_
  refine g_imul (pc := 9) C dX8_courseTells_9 ?_
  refine g_iconst (pc := 10) (v := 3) C dX8_courseTells_10 kc_3 ?_
  refine g_iadd (pc := 11) C dX8_courseTells_11 ?_
  refine g_iconst (pc := 12) (v := 3) C dX8_courseTells_12 kc_3 ?_
  refine g_iload_n (pc := 13) C 2 rfl dX8_courseTells_13 rfl ?_
  refine g_imul (pc := 14) C dX8_courseTells_14 ?_
  refine g_iadd (pc := 15) C dX8_courseTells_15 ?_
  refine g_iald (pc := 16) C si_157 dX8_courseTells_16 (fun hb1 => ?_)
  refine g_imul (pc := 17) C dX8_courseTells_17 ?_
  refine g_aload_n (pc := 18) C 0 rfl dX8_courseTells_18 rfl ?_
  refine g_get (pc := 19) C so_RX8 13 fl_RX8_39 (v := .ref (w.2.1 (157))) rfl dX8_courseTells_19 ?_
  refine g_bipush (pc := 22) (v := 26) C dX8_courseTells_22 kb_26 ?_
  refine g_iload_n (pc := 24) C 1 rfl dX8_courseTells_24 rfl ?_
  refine g_imul (pc := 25) C dX8_courseTells_25 ?_
  refine g_iconst (pc := 26) (v := 4) C dX8_courseTells_26 kc_4 ?_
  refine g_iadd (pc := 27) C dX8_courseTells_27 ?_
  refine g_iconst (pc := 28) (v := 3) C dX8_courseTells_28 kc_3 ?_
  refine g_iload_n (pc := 29) C 2 rfl dX8_courseTells_29 rfl ?_
  refine g_imul (pc := 30) C dX8_courseTells_30 ?_
  refine g_iadd (pc := 31) C dX8_courseTells_31 ?_
  refine g_iald (pc := 32) C si_157 dX8_courseTells_32 (fun hb2 => ?_)
  refine g_iadd (pc := 33) C dX8_courseTells_33 ?_
  exact g_iret C dX8_courseTells_34
/-- SnowHouseModel.course(II)I -/
def f_X8_course (h : TT) (x1 : Int32) (x2 : Int32) : Option (Int32 × TT) := (f_X8_isPlace h x1).bind fun r1 => (if r1 = 0 then some ((-1 : Int32), h) else if inb x1 4 = true then (if (h.1 156 x1.toNatClampNeg) = 0 then (f_X8_meets h (1 : Int32)).bind fun q5 => some (q5.1, q5.2) else if inb ((26 : Int32) * x1) 104 = true then (f_X8_in h x2 (0 : Int32) ((h.1 157 ((26 : Int32) * x1).toNatClampNeg) - (1 : Int32))).bind fun r7 => (if r7 = 0 then (f_X8_meets h (2 : Int32)).bind fun q9 => some (q9.1, q9.2) else (f_X8_courseTells h x1 x2).bind fun r10 => if inb ((((26 : Int32) * x1) + (2 : Int32)) + ((3 : Int32) * x2)) 104 = true then (f_X8_tellsBy h r10 (h.1 157 ((((26 : Int32) * x1) + (2 : Int32)) + ((3 : Int32) * x2)).toNatClampNeg)).bind fun q12 => some (q12.1, q12.2) else none) else none) else none)
set_option maxRecDepth 20000 in
theorem m_X8_course {l : Launch} {w : WK} {h : TT} {x1 : Int32} {x2 : Int32} {x : (Int32 × TT)} (hx : f_X8_course h x1 x2 = some x)  : Met l yX8_course (Cond.code yX8_course cX8_course 3 (some .int) :: wsG) { frames := 2, cells := 0, slots := 0, locals := 42 } (PG w [.ref (w.2.1 (147)), .int x1, .int x2] h) (QG w (fIT x)) 0 0 (AA w) := by
  refine m_entry (own := RX8) (f := fIT) hx (by decide) rfl (Nat.le_of_ble_eq_true rfl) (fun p e s m args below meth c C => ?_)
  show GO p l e _ s m args below meth c w 3 fIT (f_X8_course h x1 x2) 0 [(0, .ref (w.2.1 (147))), (1, .int x1), (2, .int x2)] [] h
  unfold f_X8_course
  refine g_iload_n (pc := 0) C 1 rfl dX8_course_0 rfl ?_
  refine g_callI (pc := 1) (rest := []) (g_runS C ms_RX8_136 (fun x1 hx1 => m_X8_isPlace hx1) (by decide) rfl rfl (Nat.le_of_ble_eq_true rfl) dX8_course_1) (fun r1 => ?_)
  refine g_if_ne (pc := 4) (tgt := 9) C dX8_course_4 (by decide) (fun hc2 => ?_) (fun hc2 => ?_)
  · refine g_iconst (pc := 7) (v := -1) C dX8_course_7 kc_m1 ?_
    exact g_iretT C dX8_course_8
  · refine g_aload_n (pc := 9) C 0 rfl dX8_course_9 rfl ?_
    refine g_get (pc := 10) C so_RX8 12 fl_RX8_36 (v := .ref (w.2.1 (156))) rfl dX8_course_10 ?_
    refine g_iload_n (pc := 13) C 1 rfl dX8_course_13 rfl ?_
    refine g_zald (pc := 14) C sz_156 dX8_course_14 (fun hb3 => ?_)
    refine g_if_ne (pc := 15) (tgt := 24) C dX8_course_15 (by decide) (fun hc4 => ?_) (fun hc4 => ?_)
    · refine g_aload_n (pc := 18) C 0 rfl dX8_course_18 rfl ?_
      refine g_iconst (pc := 19) (v := 1) C dX8_course_19 kc_1 ?_
      refine g_callIT (pc := 20) (rest := []) (g_runV C mv_RX8_85 (fun x1 hx1 => m_X8_meets hx1) so_RX8 rfl (by decide) rfl rfl (Nat.le_of_ble_eq_true rfl) dX8_course_20) (fun q5 => ?_)
      exact g_iretT C dX8_course_23
    · refine g_iload_n (pc := 24) C 2 rfl dX8_course_24 rfl ?_
      refine g_iconst (pc := 25) (v := 0) C dX8_course_25 kc_0 ?_
      refine g_aload_n (pc := 26) C 0 rfl dX8_course_26 rfl ?_
      refine g_get (pc := 27) C so_RX8 13 fl_RX8_39 (v := .ref (w.2.1 (157))) rfl dX8_course_27 ?_
      refine g_bipush (pc := 30) (v := 26) C dX8_course_30 kb_26 ?_
      refine g_iload_n (pc := 32) C 1 rfl dX8_course_32 rfl ?_
      refine g_imul (pc := 33) C dX8_course_33 ?_
      refine g_iald (pc := 34) C si_157 dX8_course_34 (fun hb6 => ?_)
      refine g_iconst (pc := 35) (v := 1) C dX8_course_35 kc_1 ?_
      refine g_isub (pc := 36) C dX8_course_36 ?_
      refine g_callI (pc := 37) (rest := []) (g_runS C ms_RX8_71 (fun x1 hx1 => m_X8_in hx1) (by decide) rfl rfl (Nat.le_of_ble_eq_true rfl) dX8_course_37) (fun r7 => ?_)
      refine g_if_eq (pc := 40) (tgt := 71) C dX8_course_40 (by decide) (fun hc8 => ?_) (fun hc8 => ?_)
      · refine g_aload_n (pc := 71) C 0 rfl dX8_course_71 rfl ?_
        refine g_iconst (pc := 72) (v := 2) C dX8_course_72 kc_2 ?_
        refine g_callIT (pc := 73) (rest := []) (g_runV C mv_RX8_85 (fun x1 hx1 => m_X8_meets hx1) so_RX8 rfl (by decide) rfl rfl (Nat.le_of_ble_eq_true rfl) dX8_course_73) (fun q9 => ?_)
        exact g_iretT C dX8_course_76
      · refine g_aload_n (pc := 43) C 0 rfl dX8_course_43 rfl ?_
        refine g_aload_n (pc := 44) C 0 rfl dX8_course_44 rfl ?_
        refine g_iload_n (pc := 45) C 1 rfl dX8_course_45 rfl ?_
        refine g_iload_n (pc := 46) C 2 rfl dX8_course_46 rfl ?_
        refine g_callI (pc := 47) (rest := [.ref (w.2.1 (147))]) (g_runV C mv_RX8_148 (fun x1 hx1 => m_X8_courseTells hx1) so_RX8 rfl (by decide) rfl rfl (Nat.le_of_ble_eq_true rfl) dX8_course_47) (fun r10 => ?_)
        refine g_aload_n (pc := 50) C 0 rfl dX8_course_50 rfl ?_
        refine g_get (pc := 51) C so_RX8 13 fl_RX8_39 (v := .ref (w.2.1 (157))) rfl dX8_course_51 ?_
        refine g_bipush (pc := 54) (v := 26) C dX8_course_54 kb_26 ?_
        refine g_iload_n (pc := 56) C 1 rfl dX8_course_56 rfl ?_
        refine g_imul (pc := 57) C dX8_course_57 ?_
        refine g_iconst (pc := 58) (v := 2) C dX8_course_58 kc_2 ?_
        refine g_iadd (pc := 59) C dX8_course_59 ?_
        refine g_iconst (pc := 60) (v := 3) C dX8_course_60 kc_3 ?_
        refine g_iload_n (pc := 61) C 2 rfl dX8_course_61 rfl ?_
        refine g_imul (pc := 62) C dX8_course_62 ?_
        refine g_iadd (pc := 63) C dX8_course_63 ?_
        refine g_iald (pc := 64) C si_157 dX8_course_64 (fun hb11 => ?_)
        refine g_callIT (pc := 65) (rest := []) (g_runV C mv_RX8_93 (fun x1 hx1 => m_X8_tellsBy hx1) so_RX8 rfl (by decide) rfl rfl (Nat.le_of_ble_eq_true rfl) dX8_course_65) (fun q12 => ?_)
        refine g_goto (pc := 68) (tgt := 76) C dX8_course_68 (by decide) ?_
        exact g_iretT C dX8_course_76
/-- SnowHouseModel.v(I)I -/
def f_X8_v (h : TT) (x1 : Int32) : Option Int32 := if inb ((h.1 147 22) + x1) 760 = true then some (h.1 161 ((h.1 147 22) + x1).toNatClampNeg) else none
set_option maxRecDepth 20000 in
theorem m_X8_v {l : Launch} {w : WK} {h : TT} {x1 : Int32} {x : Int32} (hx : f_X8_v h x1 = some x)  : Met l yX8_v (Cond.code yX8_v cX8_v 2 (some .int) :: wsG) { frames := 0, cells := 0, slots := 0, locals := 0 } (PG w [.ref (w.2.1 (147)), .int x1] h) (QG w ((fI h) x)) 0 0 (AA w) := by
  refine m_entry (own := RX8) (f := (fI h)) hx (by decide) rfl (Nat.le_of_ble_eq_true rfl) (fun p e s m args below meth c C => ?_)
  show GO p l e _ s m args below meth c w 2 (fI h) (f_X8_v h x1) 0 [(0, .ref (w.2.1 (147))), (1, .int x1)] [] h
  unfold f_X8_v
  refine g_aload_n (pc := 0) C 0 rfl dX8_v_0 rfl ?_
  refine g_get (pc := 1) C so_RX8 21 fl_RX8_51 (v := .ref (w.2.1 (161))) rfl dX8_v_1 ?_
  refine g_aload_n (pc := 4) C 0 rfl dX8_v_4 rfl ?_
  refine g_get (pc := 5) C so_RX8 22 fl_RX8_151 (v := .int (h.1 147 22)) rfl dX8_v_5 ?_
  refine g_iload_n (pc := 8) C 1 rfl dX8_v_8 rfl ?_
  refine g_iadd (pc := 9) C dX8_v_9 ?_
  refine g_iald (pc := 10) C si_161 dX8_v_10 (fun hb1 => ?_)
  exact g_iret C dX8_v_11
/-- SnowHouseModel.put(II)V -/
def f_X8_put_ (h : TT) (x1 : Int32) (x2 : Int32) : Option TT := if inb ((h.1 147 22) + x1) 760 = true then nm (wr h 161 ((h.1 147 22) + x1).toNatClampNeg x2) fun h2 => some h2 else none
set_option maxRecDepth 20000 in
theorem m_X8_put_ {l : Launch} {w : WK} {h : TT} {x1 : Int32} {x2 : Int32} {x : TT} (hx : f_X8_put_ h x1 x2 = some x)  : Met l yX8_put_ (Cond.code yX8_put_ cX8_put_ 3 none :: wsG) { frames := 0, cells := 0, slots := 0, locals := 0 } (PG w [.ref (w.2.1 (147)), .int x1, .int x2] h) (QG w (fV x)) 0 0 (AA w) := by
  refine m_entry (own := RX8) (f := fV) hx (by decide) rfl (Nat.le_of_ble_eq_true rfl) (fun p e s m args below meth c C => ?_)
  show GO p l e _ s m args below meth c w 3 fV (f_X8_put_ h x1 x2) 0 [(0, .ref (w.2.1 (147))), (1, .int x1), (2, .int x2)] [] h
  unfold f_X8_put_
  refine g_aload_n (pc := 0) C 0 rfl dX8_put__0 rfl ?_
  refine g_get (pc := 1) C so_RX8 21 fl_RX8_51 (v := .ref (w.2.1 (161))) rfl dX8_put__1 ?_
  refine g_aload_n (pc := 4) C 0 rfl dX8_put__4 rfl ?_
  refine g_get (pc := 5) C so_RX8 22 fl_RX8_151 (v := .int (h.1 147 22)) rfl dX8_put__5 ?_
  refine g_iload_n (pc := 8) C 1 rfl dX8_put__8 rfl ?_
  refine g_iadd (pc := 9) C dX8_put__9 ?_
  refine g_iload_n (pc := 10) C 2 rfl dX8_put__10 rfl ?_
  refine g_iast (pc := 11) C si_161 dX8_put__11 (fun hb1 => ?_)
  refine g_nm (fun h2 => ?_)
  exact g_vret C dX8_put__12
/-- SnowHouseModel.look(I)V -/
def f_X8_look (h : TT) (x1 : Int32) : Option TT := nm (wr h 147 22 ((152 : Int32) * x1)) fun h1 => some h1
set_option maxRecDepth 20000 in
theorem m_X8_look {l : Launch} {w : WK} {h : TT} {x1 : Int32} {x : TT} (hx : f_X8_look h x1 = some x)  : Met l yX8_look (Cond.code yX8_look cX8_look 2 none :: wsG) { frames := 0, cells := 0, slots := 0, locals := 0 } (PG w [.ref (w.2.1 (147)), .int x1] h) (QG w (fV x)) 0 0 (AA w) := by
  refine m_entry (own := RX8) (f := fV) hx (by decide) rfl (Nat.le_of_ble_eq_true rfl) (fun p e s m args below meth c C => ?_)
  show GO p l e _ s m args below meth c w 2 fV (f_X8_look h x1) 0 [(0, .ref (w.2.1 (147))), (1, .int x1)] [] h
  unfold f_X8_look
  refine g_aload_n (pc := 0) C 0 rfl dX8_look_0 rfl ?_
  refine g_sipush (pc := 1) (v := 152) C dX8_look_1 ks_152 ?_
  refine g_iload_n (pc := 4) C 1 rfl dX8_look_4 rfl ?_
  refine g_imul (pc := 5) C dX8_look_5 ?_
  refine g_putI (pc := 6) C so_RX8 22 fp_RX8_151 (se_RX8_22 _) rfl rfl (sl_RX8_22) dX8_look_6 ?_
  refine g_nm (fun h1 => ?_)
  exact g_vret C dX8_look_9
/-- SnowHouseModel.copyHouse(II)V -/
def f_X8_copyHouse_2   : Nat → Int32 → Int32 → Int32 → TT → Option TT
  | 0, _, _, _, _ => none
  | n + 1, x1, x2, x3, h => (if (152 : Int32) ≤ x3 then some h else if inb (((152 : Int32) * x1) + x3) 760 = true then if inb (((152 : Int32) * x2) + x3) 760 = true then nm (wr h 161 (((152 : Int32) * x2) + x3).toNatClampNeg (h.1 161 (((152 : Int32) * x1) + x3).toNatClampNeg)) fun h4 => f_X8_copyHouse_2 n x1 x2 (x3 + (1 : Int32)) h4 else none else none)
set_option maxRecDepth 20000 in
theorem j_X8_copyHouse_2 {p : Program} {l : Launch} {e : Env} {R : Room} {s : State} {m : MethodId} {args : Array Value} {below : List Frame} {meth : Method} {c : Code} {w : WK} (C : CX p R s m args meth c w RX8 cX8_copyHouse 4 none 0 0)     : ∀ (n : Nat) (x1 : Int32) (x2 : Int32) (x3 : Int32) (h : TT), GO p l e R s m args below meth c w 4 fV (f_X8_copyHouse_2 n x1 x2 x3 h) 2 [(0, .ref (w.2.1 (147))), (1, .int x1), (2, .int x2), (3, .int x3)] [] h := by
  intro n
  induction n with
  | zero =>
    intro x1 x2 x3 h
    exact g_none
  | succ n ih =>
    intro x1 x2 x3 h
    rw [f_X8_copyHouse_2]
    refine g_iload_n (pc := 2) C 3 rfl dX8_copyHouse_2 rfl ?_
    refine g_sipush (pc := 3) (v := 152) C dX8_copyHouse_3 ks_152 ?_
    refine g_icmp_ge (pc := 6) (tgt := 39) C dX8_copyHouse_6 (by decide) (fun hc1 => ?_) (fun hc1 => ?_)
    · exact g_vret C dX8_copyHouse_39
    · refine g_aload_n (pc := 9) C 0 rfl dX8_copyHouse_9 rfl ?_
      refine g_get (pc := 10) C so_RX8 21 fl_RX8_51 (v := .ref (w.2.1 (161))) rfl dX8_copyHouse_10 ?_
      refine g_sipush (pc := 13) (v := 152) C dX8_copyHouse_13 ks_152 ?_
      refine g_iload_n (pc := 16) C 2 rfl dX8_copyHouse_16 rfl ?_
      refine g_imul (pc := 17) C dX8_copyHouse_17 ?_
      refine g_iload_n (pc := 18) C 3 rfl dX8_copyHouse_18 rfl ?_
      refine g_iadd (pc := 19) C dX8_copyHouse_19 ?_
      refine g_aload_n (pc := 20) C 0 rfl dX8_copyHouse_20 rfl ?_
      refine g_get (pc := 21) C so_RX8 21 fl_RX8_51 (v := .ref (w.2.1 (161))) rfl dX8_copyHouse_21 ?_
      refine g_sipush (pc := 24) (v := 152) C dX8_copyHouse_24 ks_152 ?_
      refine g_iload_n (pc := 27) C 1 rfl dX8_copyHouse_27 rfl ?_
      refine g_imul (pc := 28) C dX8_copyHouse_28 ?_
      refine g_iload_n (pc := 29) C 3 rfl dX8_copyHouse_29 rfl ?_
      refine g_iadd (pc := 30) C dX8_copyHouse_30 ?_
      refine g_iald (pc := 31) C si_161 dX8_copyHouse_31 (fun hb2 => ?_)
      refine g_iast (pc := 32) C si_161 dX8_copyHouse_32 (fun hb3 => ?_)
      refine g_nm (fun h4 => ?_)
      refine g_iinc (pc := 33) C 3 rfl dX8_copyHouse_33 (ki_1 _) (by decide) (lv' := [(3, .int (x3 + (1 : Int32))), (0, .ref (w.2.1 (147))), (1, .int x1), (2, .int x2)]) rfl ?_
      refine g_goto (pc := 36) (tgt := 2) C dX8_copyHouse_36 (by decide) ?_
      refine g_lv (lv' := [(0, .ref (w.2.1 (147))), (1, .int x1), (2, .int x2), (3, .int (x3 + (1 : Int32)))]) [1, 2, 3, 0] rfl ?_
      exact ih x1 x2 (x3 + (1 : Int32)) h4
def f_X8_copyHouse (h : TT) (x1 : Int32) (x2 : Int32) : Option TT := f_X8_copyHouse_2 KF x1 x2 (0 : Int32) h
set_option maxRecDepth 20000 in
theorem m_X8_copyHouse {l : Launch} {w : WK} {h : TT} {x1 : Int32} {x2 : Int32} {x : TT} (hx : f_X8_copyHouse h x1 x2 = some x)  : Met l yX8_copyHouse (Cond.code yX8_copyHouse cX8_copyHouse 4 none :: wsG) { frames := 0, cells := 0, slots := 0, locals := 0 } (PG w [.ref (w.2.1 (147)), .int x1, .int x2] h) (QG w (fV x)) 0 0 (AA w) := by
  refine m_entry (own := RX8) (f := fV) hx (by decide) rfl (Nat.le_of_ble_eq_true rfl) (fun p e s m args below meth c C => ?_)
  show GO p l e _ s m args below meth c w 4 fV (f_X8_copyHouse h x1 x2) 0 [(0, .ref (w.2.1 (147))), (1, .int x1), (2, .int x2)] [] h
  unfold f_X8_copyHouse
  refine g_iconst (pc := 0) (v := 0) C dX8_copyHouse_0 kc_0 ?_
  refine g_istore_n (pc := 1) C dX8_copyHouse_1 rfl (by decide) (lv' := [(3, .int (0 : Int32)), (0, .ref (w.2.1 (147))), (1, .int x1), (2, .int x2)]) rfl ?_
  refine g_lv (lv' := [(0, .ref (w.2.1 (147))), (1, .int x1), (2, .int x2), (3, .int (0 : Int32))]) [1, 2, 3, 0] rfl ?_
  exact j_X8_copyHouse_2 C KF x1 x2 (0 : Int32) h
/-- SnowHouseModel.kindOf(I)I -/
def f_X8_kindOf (h : TT) (x1 : Int32) : Option Int32 := (f_X8_v h ((7 : Int32) + ((3 : Int32) * x1))).bind fun r1 => some r1
set_option maxRecDepth 20000 in
theorem m_X8_kindOf {l : Launch} {w : WK} {h : TT} {x1 : Int32} {x : Int32} (hx : f_X8_kindOf h x1 = some x)  : Met l yX8_kindOf (Cond.code yX8_kindOf cX8_kindOf 2 (some .int) :: wsG) { frames := 1, cells := 0, slots := 0, locals := 21 } (PG w [.ref (w.2.1 (147)), .int x1] h) (QG w ((fI h) x)) 0 0 (AA w) := by
  refine m_entry (own := RX8) (f := (fI h)) hx (by decide) rfl (Nat.le_of_ble_eq_true rfl) (fun p e s m args below meth c C => ?_)
  show GO p l e _ s m args below meth c w 2 (fI h) (f_X8_kindOf h x1) 0 [(0, .ref (w.2.1 (147))), (1, .int x1)] [] h
  unfold f_X8_kindOf
  refine g_aload_n (pc := 0) C 0 rfl dX8_kindOf_0 rfl ?_
  refine g_bipush (pc := 1) (v := 7) C dX8_kindOf_1 kb_7 ?_
  refine g_iconst (pc := 3) (v := 3) C dX8_kindOf_3 kc_3 ?_
  refine g_iload_n (pc := 4) C 1 rfl dX8_kindOf_4 rfl ?_
  refine g_imul (pc := 5) C dX8_kindOf_5 ?_
  refine g_iadd (pc := 6) C dX8_kindOf_6 ?_
  refine g_callI (pc := 7) (rest := []) (g_runV C mv_RX8_154 (fun x1 hx1 => m_X8_v hx1) so_RX8 rfl (by decide) rfl rfl (Nat.le_of_ble_eq_true rfl) dX8_kindOf_7) (fun r1 => ?_)
  exact g_iret C dX8_kindOf_10
/-- SnowHouseModel.size(I)I -/
def f_X8_size (h : TT) (x1 : Int32) : Option Int32 := (f_X8_v h (((7 : Int32) + ((3 : Int32) * x1)) + (1 : Int32))).bind fun r1 => some r1
set_option maxRecDepth 20000 in
theorem m_X8_size {l : Launch} {w : WK} {h : TT} {x1 : Int32} {x : Int32} (hx : f_X8_size h x1 = some x)  : Met l yX8_size (Cond.code yX8_size cX8_size 2 (some .int) :: wsG) { frames := 1, cells := 0, slots := 0, locals := 21 } (PG w [.ref (w.2.1 (147)), .int x1] h) (QG w ((fI h) x)) 0 0 (AA w) := by
  refine m_entry (own := RX8) (f := (fI h)) hx (by decide) rfl (Nat.le_of_ble_eq_true rfl) (fun p e s m args below meth c C => ?_)
  show GO p l e _ s m args below meth c w 2 (fI h) (f_X8_size h x1) 0 [(0, .ref (w.2.1 (147))), (1, .int x1)] [] h
  unfold f_X8_size
  refine g_aload_n (pc := 0) C 0 rfl dX8_size_0 rfl ?_
  refine g_bipush (pc := 1) (v := 7) C dX8_size_1 kb_7 ?_
  refine g_iconst (pc := 3) (v := 3) C dX8_size_3 kc_3 ?_
  refine g_iload_n (pc := 4) C 1 rfl dX8_size_4 rfl ?_
  refine g_imul (pc := 5) C dX8_size_5 ?_
  refine g_iadd (pc := 6) C dX8_size_6 ?_
  refine g_iconst (pc := 7) (v := 1) C dX8_size_7 kc_1 ?_
  refine g_iadd (pc := 8) C dX8_size_8 ?_
  refine g_callI (pc := 9) (rest := []) (g_runV C mv_RX8_154 (fun x1 hx1 => m_X8_v hx1) so_RX8 rfl (by decide) rfl rfl (Nat.le_of_ble_eq_true rfl) dX8_size_9) (fun r1 => ?_)
  exact g_iret C dX8_size_12
/-- SnowHouseModel.lean0(I)I -/
def f_X8_lean0 (h : TT) (x1 : Int32) : Option Int32 := (f_X8_v h (((7 : Int32) + ((3 : Int32) * x1)) + (2 : Int32))).bind fun r1 => some r1
set_option maxRecDepth 20000 in
theorem m_X8_lean0 {l : Launch} {w : WK} {h : TT} {x1 : Int32} {x : Int32} (hx : f_X8_lean0 h x1 = some x)  : Met l yX8_lean0 (Cond.code yX8_lean0 cX8_lean0 2 (some .int) :: wsG) { frames := 1, cells := 0, slots := 0, locals := 21 } (PG w [.ref (w.2.1 (147)), .int x1] h) (QG w ((fI h) x)) 0 0 (AA w) := by
  refine m_entry (own := RX8) (f := (fI h)) hx (by decide) rfl (Nat.le_of_ble_eq_true rfl) (fun p e s m args below meth c C => ?_)
  show GO p l e _ s m args below meth c w 2 (fI h) (f_X8_lean0 h x1) 0 [(0, .ref (w.2.1 (147))), (1, .int x1)] [] h
  unfold f_X8_lean0
  refine g_aload_n (pc := 0) C 0 rfl dX8_lean0_0 rfl ?_
  refine g_bipush (pc := 1) (v := 7) C dX8_lean0_1 kb_7 ?_
  refine g_iconst (pc := 3) (v := 3) C dX8_lean0_3 kc_3 ?_
  refine g_iload_n (pc := 4) C 1 rfl dX8_lean0_4 rfl ?_
  refine g_imul (pc := 5) C dX8_lean0_5 ?_
  refine g_iadd (pc := 6) C dX8_lean0_6 ?_
  refine g_iconst (pc := 7) (v := 2) C dX8_lean0_7 kc_2 ?_
  refine g_iadd (pc := 8) C dX8_lean0_8 ?_
  refine g_callI (pc := 9) (rest := []) (g_runV C mv_RX8_154 (fun x1 hx1 => m_X8_v hx1) so_RX8 rfl (by decide) rfl rfl (Nat.le_of_ble_eq_true rfl) dX8_lean0_9) (fun r1 => ?_)
  exact g_iret C dX8_lean0_12
/-- SnowHouseModel.start(I)I -/
def f_X8_start_4 (h : TT)   : Nat → Int32 → Int32 → Int32 → Option Int32
  | 0, _, _, _ => none
  | n + 1, x1, x2, x3 => (if x1 ≤ x3 then some x2 else (f_X8_size h x3).bind fun r2 => nm (x2 + r2) fun y3 => f_X8_start_4 h n x1 y3 (x3 + (1 : Int32)))
set_option maxRecDepth 20000 in
theorem j_X8_start_4 {p : Program} {l : Launch} {e : Env} {R : Room} {s : State} {m : MethodId} {args : Array Value} {below : List Frame} {meth : Method} {c : Code} {w : WK} (C : CX p R s m args meth c w RX8 cX8_start 4 (some .int) 2 42) (h : TT)    : ∀ (n : Nat) (x1 : Int32) (x2 : Int32) (x3 : Int32), GO p l e R s m args below meth c w 4 (fI h) (f_X8_start_4 h n x1 x2 x3) 4 [(0, .ref (w.2.1 (147))), (1, .int x1), (2, .int x2), (3, .int x3)] [] h := by
  intro n
  induction n with
  | zero =>
    intro x1 x2 x3
    exact g_none
  | succ n ih =>
    intro x1 x2 x3
    rw [f_X8_start_4]
    refine g_iload_n (pc := 4) C 3 rfl dX8_start_4 rfl ?_
    refine g_iload_n (pc := 5) C 1 rfl dX8_start_5 rfl ?_
    refine g_icmp_ge (pc := 6) (tgt := 23) C dX8_start_6 (by decide) (fun hc1 => ?_) (fun hc1 => ?_)
    · refine g_iload_n (pc := 23) C 2 rfl dX8_start_23 rfl ?_
      exact g_iret C dX8_start_24
    · refine g_iload_n (pc := 9) C 2 rfl dX8_start_9 rfl ?_
      refine g_aload_n (pc := 10) C 0 rfl dX8_start_10 rfl ?_
      refine g_iload_n (pc := 11) C 3 rfl dX8_start_11 rfl ?_
      refine g_callI (pc := 12) (rest := [.int x2]) (g_runV C mv_RX8_157 (fun x1 hx1 => m_X8_size hx1) so_RX8 rfl (by decide) rfl rfl (Nat.le_of_ble_eq_true rfl) dX8_start_12) (fun r2 => ?_)
      refine g_iadd (pc := 15) C dX8_start_15 ?_
      refine g_nmi (fun y3 => ?_)
      refine g_istore_n (pc := 16) C dX8_start_16 rfl (by decide) (lv' := [(2, .int y3), (0, .ref (w.2.1 (147))), (1, .int x1), (3, .int x3)]) rfl ?_
      refine g_iinc (pc := 17) C 3 rfl dX8_start_17 (ki_1 _) (by decide) (lv' := [(3, .int (x3 + (1 : Int32))), (2, .int y3), (0, .ref (w.2.1 (147))), (1, .int x1)]) rfl ?_
      refine g_goto (pc := 20) (tgt := 4) C dX8_start_20 (by decide) ?_
      refine g_lv (lv' := [(0, .ref (w.2.1 (147))), (1, .int x1), (2, .int y3), (3, .int (x3 + (1 : Int32)))]) [2, 3, 1, 0] rfl ?_
      exact ih x1 y3 (x3 + (1 : Int32))
def f_X8_start (h : TT) (x1 : Int32) : Option Int32 := f_X8_start_4 h KF x1 (0 : Int32) (0 : Int32)
set_option maxRecDepth 20000 in
theorem m_X8_start {l : Launch} {w : WK} {h : TT} {x1 : Int32} {x : Int32} (hx : f_X8_start h x1 = some x)  : Met l yX8_start (Cond.code yX8_start cX8_start 4 (some .int) :: wsG) { frames := 2, cells := 0, slots := 0, locals := 42 } (PG w [.ref (w.2.1 (147)), .int x1] h) (QG w ((fI h) x)) 0 0 (AA w) := by
  refine m_entry (own := RX8) (f := (fI h)) hx (by decide) rfl (Nat.le_of_ble_eq_true rfl) (fun p e s m args below meth c C => ?_)
  show GO p l e _ s m args below meth c w 4 (fI h) (f_X8_start h x1) 0 [(0, .ref (w.2.1 (147))), (1, .int x1)] [] h
  unfold f_X8_start
  refine g_iconst (pc := 0) (v := 0) C dX8_start_0 kc_0 ?_
  refine g_istore_n (pc := 1) C dX8_start_1 rfl (by decide) (lv' := [(2, .int (0 : Int32)), (0, .ref (w.2.1 (147))), (1, .int x1)]) rfl ?_
  refine g_iconst (pc := 2) (v := 0) C dX8_start_2 kc_0 ?_
  refine g_istore_n (pc := 3) C dX8_start_3 rfl (by decide) (lv' := [(3, .int (0 : Int32)), (2, .int (0 : Int32)), (0, .ref (w.2.1 (147))), (1, .int x1)]) rfl ?_
  refine g_lv (lv' := [(0, .ref (w.2.1 (147))), (1, .int x1), (2, .int (0 : Int32)), (3, .int (0 : Int32))]) [2, 3, 1, 0] rfl ?_
  exact j_X8_start_4 C h KF x1 (0 : Int32) (0 : Int32)
/-- SnowHouseModel.all()I -/
def f_X8_all (h : TT)  : Option Int32 := (f_X8_v h (6 : Int32)).bind fun r1 => (f_X8_start h r1).bind fun r2 => some r2
set_option maxRecDepth 20000 in
theorem m_X8_all {l : Launch} {w : WK} {h : TT}  {x : Int32} (hx : f_X8_all h  = some x)  : Met l yX8_all (Cond.code yX8_all cX8_all 1 (some .int) :: wsG) { frames := 3, cells := 0, slots := 0, locals := 65 } (PG w [.ref (w.2.1 (147))] h) (QG w ((fI h) x)) 0 0 (AA w) := by
  refine m_entry (own := RX8) (f := (fI h)) hx (by decide) rfl (Nat.le_of_ble_eq_true rfl) (fun p e s m args below meth c C => ?_)
  show GO p l e _ s m args below meth c w 1 (fI h) (f_X8_all h ) 0 [(0, .ref (w.2.1 (147)))] [] h
  unfold f_X8_all
  refine g_aload_n (pc := 0) C 0 rfl dX8_all_0 rfl ?_
  refine g_aload_n (pc := 1) C 0 rfl dX8_all_1 rfl ?_
  refine g_bipush (pc := 2) (v := 6) C dX8_all_2 kb_6 ?_
  refine g_callI (pc := 4) (rest := [.ref (w.2.1 (147))]) (g_runV C mv_RX8_154 (fun x1 hx1 => m_X8_v hx1) so_RX8 rfl (by decide) rfl rfl (Nat.le_of_ble_eq_true rfl) dX8_all_4) (fun r1 => ?_)
  refine g_callI (pc := 7) (rest := []) (g_runV C mv_RX8_160 (fun x1 hx1 => m_X8_start hx1) so_RX8 rfl (by decide) rfl rfl (Nat.le_of_ble_eq_true rfl) dX8_all_7) (fun r2 => ?_)
  exact g_iret C dX8_all_10
/-- SnowHouseModel.courseOf(I)I -/
def f_X8_courseOf_4 (h : TT)   : Nat → Int32 → Int32 → Option Int32
  | 0, _, _ => none
  | n + 1, x2, x3 => (f_X8_size h x2).bind fun r1 => (if x3 < r1 then some x2 else (f_X8_size h x2).bind fun r3 => nm (x3 - r3) fun y4 => f_X8_courseOf_4 h n (x2 + (1 : Int32)) y4)
set_option maxRecDepth 20000 in
theorem j_X8_courseOf_4 {p : Program} {l : Launch} {e : Env} {R : Room} {s : State} {m : MethodId} {args : Array Value} {below : List Frame} {meth : Method} {c : Code} {w : WK} (C : CX p R s m args meth c w RX8 cX8_courseOf 4 (some .int) 2 42) (h : TT)    : ∀ (n : Nat) (x2 : Int32) (x3 : Int32), GO p l e R s m args below meth c w 4 (fI h) (f_X8_courseOf_4 h n x2 x3) 4 [(0, .ref (w.2.1 (147))), (2, .int x2), (3, .int x3)] [] h := by
  intro n
  induction n with
  | zero =>
    intro x2 x3
    exact g_none
  | succ n ih =>
    intro x2 x3
    rw [f_X8_courseOf_4]
    refine g_iload_n (pc := 4) C 2 rfl dX8_courseOf_4 rfl ?_
    refine g_aload_n (pc := 5) C 0 rfl dX8_courseOf_5 rfl ?_
    refine g_iload_n (pc := 6) C 1 rfl dX8_courseOf_6 rfl ?_
    refine g_callI (pc := 7) (rest := [.int x3]) (g_runV C mv_RX8_157 (fun x1 hx1 => m_X8_size hx1) so_RX8 rfl (by decide) rfl rfl (Nat.le_of_ble_eq_true rfl) dX8_courseOf_7) (fun r1 => ?_)
    refine g_icmp_lt (pc := 10) (tgt := 27) C dX8_courseOf_10 (by decide) (fun hc2 => ?_) (fun hc2 => ?_)
    · refine g_iload_n (pc := 27) C 1 rfl dX8_courseOf_27 rfl ?_
      exact g_iret C dX8_courseOf_28
    · refine g_iload_n (pc := 13) C 2 rfl dX8_courseOf_13 rfl ?_
      refine g_aload_n (pc := 14) C 0 rfl dX8_courseOf_14 rfl ?_
      refine g_iload_n (pc := 15) C 1 rfl dX8_courseOf_15 rfl ?_
      refine g_callI (pc := 16) (rest := [.int x3]) (g_runV C mv_RX8_157 (fun x1 hx1 => m_X8_size hx1) so_RX8 rfl (by decide) rfl rfl (Nat.le_of_ble_eq_true rfl) dX8_courseOf_16) (fun r3 => ?_)
      refine g_isub (pc := 19) C dX8_courseOf_19 ?_
      refine g_nmi (fun y4 => ?_)
      refine g_istore_n (pc := 20) C dX8_courseOf_20 rfl (by decide) (lv' := [(3, .int y4), (0, .ref (w.2.1 (147))), (2, .int x2)]) rfl ?_
      refine g_iinc (pc := 21) C 2 rfl dX8_courseOf_21 (ki_1 _) (by decide) (lv' := [(2, .int (x2 + (1 : Int32))), (3, .int y4), (0, .ref (w.2.1 (147)))]) rfl ?_
      refine g_goto (pc := 24) (tgt := 4) C dX8_courseOf_24 (by decide) ?_
      refine g_lv (lv' := [(0, .ref (w.2.1 (147))), (2, .int (x2 + (1 : Int32))), (3, .int y4)]) [2, 0, 1] rfl ?_
      exact ih (x2 + (1 : Int32)) y4
def f_X8_courseOf (h : TT) (x1 : Int32) : Option Int32 := f_X8_courseOf_4 h KF (0 : Int32) x1
set_option maxRecDepth 20000 in
theorem m_X8_courseOf {l : Launch} {w : WK} {h : TT} {x1 : Int32} {x : Int32} (hx : f_X8_courseOf h x1 = some x)  : Met l yX8_courseOf (Cond.code yX8_courseOf cX8_courseOf 4 (some .int) :: wsG) { frames := 2, cells := 0, slots := 0, locals := 42 } (PG w [.ref (w.2.1 (147)), .int x1] h) (QG w ((fI h) x)) 0 0 (AA w) := by
  refine m_entry (own := RX8) (f := (fI h)) hx (by decide) rfl (Nat.le_of_ble_eq_true rfl) (fun p e s m args below meth c C => ?_)
  show GO p l e _ s m args below meth c w 4 (fI h) (f_X8_courseOf h x1) 0 [(0, .ref (w.2.1 (147))), (1, .int x1)] [] h
  unfold f_X8_courseOf
  refine g_iconst (pc := 0) (v := 0) C dX8_courseOf_0 kc_0 ?_
  refine g_istore_n (pc := 1) C dX8_courseOf_1 rfl (by decide) (lv' := [(2, .int (0 : Int32)), (0, .ref (w.2.1 (147))), (1, .int x1)]) rfl ?_
  refine g_iload_n (pc := 2) C 2 rfl dX8_courseOf_2 rfl ?_
  refine g_istore_n (pc := 3) C dX8_courseOf_3 rfl (by decide) (lv' := [(3, .int x1), (2, .int (0 : Int32)), (0, .ref (w.2.1 (147))), (1, .int x1)]) rfl ?_
  refine g_lv (lv' := [(0, .ref (w.2.1 (147))), (2, .int (0 : Int32)), (3, .int x1)]) [2, 1, 0] rfl ?_
  exact j_X8_courseOf_4 C h KF (0 : Int32) x1
/-- SnowHouseModel.layHouse(III)V -/
def f_X8_layHouse_72   : Nat → Int32 → Int32 → TT → Option TT
  | 0, _, _, _ => none
  | n + 1, x2, x4, h => (if (24 : Int32) ≤ x4 then some h else if inb ((((26 : Int32) * x2) + (2 : Int32)) + x4) 104 = true then (f_X8_put_ h ((7 : Int32) + x4) (h.1 157 ((((26 : Int32) * x2) + (2 : Int32)) + x4).toNatClampNeg)).bind fun h9 => f_X8_layHouse_72 n x2 (x4 + (1 : Int32)) h9 else none)
set_option maxRecDepth 20000 in
theorem j_X8_layHouse_72 {p : Program} {l : Launch} {e : Env} {R : Room} {s : State} {m : MethodId} {args : Array Value} {below : List Frame} {meth : Method} {c : Code} {w : WK} (C : CX p R s m args meth c w RX8 cX8_layHouse 5 none 1 22)     : ∀ (n : Nat) (x2 : Int32) (x4 : Int32) (h : TT), GO p l e R s m args below meth c w 5 fV (f_X8_layHouse_72 n x2 x4 h) 72 [(0, .ref (w.2.1 (147))), (2, .int x2), (4, .int x4)] [] h := by
  intro n
  induction n with
  | zero =>
    intro x2 x4 h
    exact g_none
  | succ n ih =>
    intro x2 x4 h
    rw [f_X8_layHouse_72]
    refine g_iload (pc := 72) C 2 rfl dX8_layHouse_72 ?_
    refine g_bipush (pc := 74) (v := 24) C dX8_layHouse_74 kb_24 ?_
    refine g_icmp_ge (pc := 76) (tgt := 108) C dX8_layHouse_76 (by decide) (fun hc7 => ?_) (fun hc7 => ?_)
    · exact g_vret C dX8_layHouse_108
    · refine g_aload_n (pc := 79) C 0 rfl dX8_layHouse_79 rfl ?_
      refine g_bipush (pc := 80) (v := 7) C dX8_layHouse_80 kb_7 ?_
      refine g_iload (pc := 82) C 2 rfl dX8_layHouse_82 ?_
      refine g_iadd (pc := 84) C dX8_layHouse_84 ?_
      refine g_aload_n (pc := 85) C 0 rfl dX8_layHouse_85 rfl ?_
      refine g_get (pc := 86) C so_RX8 13 fl_RX8_39 (v := .ref (w.2.1 (157))) rfl dX8_layHouse_86 ?_
      refine g_bipush (pc := 89) (v := 26) C dX8_layHouse_89 kb_26 ?_
      refine g_iload_n (pc := 91) C 1 rfl dX8_layHouse_91 rfl ?_
      refine g_imul (pc := 92) C dX8_layHouse_92 ?_
      refine g_iconst (pc := 93) (v := 2) C dX8_layHouse_93 kc_2 ?_
      refine g_iadd (pc := 94) C dX8_layHouse_94 ?_
      refine g_iload (pc := 95) C 2 rfl dX8_layHouse_95 ?_
      refine g_iadd (pc := 97) C dX8_layHouse_97 ?_
      refine g_iald (pc := 98) C si_157 dX8_layHouse_98 (fun hb8 => ?_)
      refine g_callV (pc := 99) (rest := []) (g_runV C mv_RX8_163 (fun x1 hx1 => m_X8_put_ hx1) so_RX8 rfl (by decide) rfl rfl (Nat.le_of_ble_eq_true rfl) dX8_layHouse_99) (fun h9 => ?_)
      refine g_iinc (pc := 102) C 2 rfl dX8_layHouse_102 (ki_1 _) (by decide) (lv' := [(4, .int (x4 + (1 : Int32))), (0, .ref (w.2.1 (147))), (2, .int x2)]) rfl ?_
      refine g_goto (pc := 105) (tgt := 72) C dX8_layHouse_105 (by decide) ?_
      refine g_lv (lv' := [(0, .ref (w.2.1 (147))), (2, .int x2), (4, .int (x4 + (1 : Int32)))]) [1, 2, 0] rfl ?_
      exact ih x2 (x4 + (1 : Int32)) h9
def f_X8_layHouse_3   : Nat → Int32 → Int32 → Int32 → Int32 → TT → Option TT
  | 0, _, _, _, _, _ => none
  | n + 1, x1, x2, x3, x4, h => (if (4 : Int32) ≤ x4 then if inb (((26 : Int32) * x2) + (1 : Int32)) 104 = true then (f_X8_put_ h (4 : Int32) (h.1 157 (((26 : Int32) * x2) + (1 : Int32)).toNatClampNeg)).bind fun h3 => (f_X8_put_ h3 (5 : Int32) x3).bind fun h4 => if inb ((26 : Int32) * x2) 104 = true then (f_X8_put_ h4 (6 : Int32) (h4.1 157 ((26 : Int32) * x2).toNatClampNeg)).bind fun h6 => f_X8_layHouse_72 KF x2 (0 : Int32) h6 else none else none else if inb (((4 : Int32) * x1) + x4) 16 = true then (f_X8_put_ h x4 (h.1 155 (((4 : Int32) * x1) + x4).toNatClampNeg)).bind fun h11 => f_X8_layHouse_3 n x1 x2 x3 (x4 + (1 : Int32)) h11 else none)
set_option maxRecDepth 20000 in
theorem j_X8_layHouse_3 {p : Program} {l : Launch} {e : Env} {R : Room} {s : State} {m : MethodId} {args : Array Value} {below : List Frame} {meth : Method} {c : Code} {w : WK} (C : CX p R s m args meth c w RX8 cX8_layHouse 5 none 1 22)     : ∀ (n : Nat) (x1 : Int32) (x2 : Int32) (x3 : Int32) (x4 : Int32) (h : TT), GO p l e R s m args below meth c w 5 fV (f_X8_layHouse_3 n x1 x2 x3 x4 h) 3 [(0, .ref (w.2.1 (147))), (1, .int x1), (2, .int x2), (3, .int x3), (4, .int x4)] [] h := by
  intro n
  induction n with
  | zero =>
    intro x1 x2 x3 x4 h
    exact g_none
  | succ n ih =>
    intro x1 x2 x3 x4 h
    rw [f_X8_layHouse_3]
    refine g_iload (pc := 3) C 4 rfl dX8_layHouse_3 ?_
    refine g_iconst (pc := 5) (v := 4) C dX8_layHouse_5 kc_4 ?_
    refine g_icmp_ge (pc := 6) (tgt := 32) C dX8_layHouse_6 (by decide) (fun hc1 => ?_) (fun hc1 => ?_)
    · refine g_aload_n (pc := 32) C 0 rfl dX8_layHouse_32 rfl ?_
      refine g_iconst (pc := 33) (v := 4) C dX8_layHouse_33 kc_4 ?_
      refine g_aload_n (pc := 34) C 0 rfl dX8_layHouse_34 rfl ?_
      refine g_get (pc := 35) C so_RX8 13 fl_RX8_39 (v := .ref (w.2.1 (157))) rfl dX8_layHouse_35 ?_
      refine g_bipush (pc := 38) (v := 26) C dX8_layHouse_38 kb_26 ?_
      refine g_iload_n (pc := 40) C 2 rfl dX8_layHouse_40 rfl ?_
      refine g_imul (pc := 41) C dX8_layHouse_41 ?_
      refine g_iconst (pc := 42) (v := 1) C dX8_layHouse_42 kc_1 ?_
      refine g_iadd (pc := 43) C dX8_layHouse_43 ?_
      refine g_iald (pc := 44) C si_157 dX8_layHouse_44 (fun hb2 => ?_)
      refine g_callV (pc := 45) (rest := []) (g_runV C mv_RX8_163 (fun x1 hx1 => m_X8_put_ hx1) so_RX8 rfl (by decide) rfl rfl (Nat.le_of_ble_eq_true rfl) dX8_layHouse_45) (fun h3 => ?_)
      refine g_aload_n (pc := 48) C 0 rfl dX8_layHouse_48 rfl ?_
      refine g_iconst (pc := 49) (v := 5) C dX8_layHouse_49 kc_5 ?_
      refine g_iload_n (pc := 50) C 3 rfl dX8_layHouse_50 rfl ?_
      refine g_callV (pc := 51) (rest := []) (g_runV C mv_RX8_163 (fun x1 hx1 => m_X8_put_ hx1) so_RX8 rfl (by decide) rfl rfl (Nat.le_of_ble_eq_true rfl) dX8_layHouse_51) (fun h4 => ?_)
      refine g_aload_n (pc := 54) C 0 rfl dX8_layHouse_54 rfl ?_
      refine g_bipush (pc := 55) (v := 6) C dX8_layHouse_55 kb_6 ?_
      refine g_aload_n (pc := 57) C 0 rfl dX8_layHouse_57 rfl ?_
      refine g_get (pc := 58) C so_RX8 13 fl_RX8_39 (v := .ref (w.2.1 (157))) rfl dX8_layHouse_58 ?_
      refine g_bipush (pc := 61) (v := 26) C dX8_layHouse_61 kb_26 ?_
      refine g_iload_n (pc := 63) C 2 rfl dX8_layHouse_63 rfl ?_
      refine g_imul (pc := 64) C dX8_layHouse_64 ?_
      refine g_iald (pc := 65) C si_157 dX8_layHouse_65 (fun hb5 => ?_)
      refine g_callV (pc := 66) (rest := []) (g_runV C mv_RX8_163 (fun x1 hx1 => m_X8_put_ hx1) so_RX8 rfl (by decide) rfl rfl (Nat.le_of_ble_eq_true rfl) dX8_layHouse_66) (fun h6 => ?_)
      refine g_iconst (pc := 69) (v := 0) C dX8_layHouse_69 kc_0 ?_
      refine g_istore (pc := 70) C dX8_layHouse_70 (by decide) (lv' := [(4, .int (0 : Int32)), (0, .ref (w.2.1 (147))), (1, .int x1), (2, .int x2), (3, .int x3)]) rfl ?_
      refine g_lv (lv' := [(0, .ref (w.2.1 (147))), (2, .int x2), (4, .int (0 : Int32))]) [1, 3, 0] rfl ?_
      exact j_X8_layHouse_72 C KF x2 (0 : Int32) h6
    · refine g_aload_n (pc := 9) C 0 rfl dX8_layHouse_9 rfl ?_
      refine g_iload (pc := 10) C 4 rfl dX8_layHouse_10 ?_
      refine g_aload_n (pc := 12) C 0 rfl dX8_layHouse_12 rfl ?_
      refine g_get (pc := 13) C so_RX8 11 fl_RX8_33 (v := .ref (w.2.1 (155))) rfl dX8_layHouse_13 ?_
      refine g_iconst (pc := 16) (v := 4) C dX8_layHouse_16 kc_4 ?_
      refine g_iload_n (pc := 17) C 1 rfl dX8_layHouse_17 rfl ?_
      refine g_imul (pc := 18) C dX8_layHouse_18 ?_
      refine g_iload (pc := 19) C 4 rfl dX8_layHouse_19 ?_
      refine g_iadd (pc := 21) C dX8_layHouse_21 ?_
      refine g_iald (pc := 22) C si_155 dX8_layHouse_22 (fun hb10 => ?_)
      refine g_callV (pc := 23) (rest := []) (g_runV C mv_RX8_163 (fun x1 hx1 => m_X8_put_ hx1) so_RX8 rfl (by decide) rfl rfl (Nat.le_of_ble_eq_true rfl) dX8_layHouse_23) (fun h11 => ?_)
      refine g_iinc (pc := 26) C 4 rfl dX8_layHouse_26 (ki_1 _) (by decide) (lv' := [(4, .int (x4 + (1 : Int32))), (0, .ref (w.2.1 (147))), (1, .int x1), (2, .int x2), (3, .int x3)]) rfl ?_
      refine g_goto (pc := 29) (tgt := 3) C dX8_layHouse_29 (by decide) ?_
      refine g_lv (lv' := [(0, .ref (w.2.1 (147))), (1, .int x1), (2, .int x2), (3, .int x3), (4, .int (x4 + (1 : Int32)))]) [1, 2, 3, 4, 0] rfl ?_
      exact ih x1 x2 x3 (x4 + (1 : Int32)) h11
def f_X8_layHouse (h : TT) (x1 : Int32) (x2 : Int32) (x3 : Int32) : Option TT := f_X8_layHouse_3 KF x1 x2 x3 (0 : Int32) h
set_option maxRecDepth 20000 in
theorem m_X8_layHouse {l : Launch} {w : WK} {h : TT} {x1 : Int32} {x2 : Int32} {x3 : Int32} {x : TT} (hx : f_X8_layHouse h x1 x2 x3 = some x)  : Met l yX8_layHouse (Cond.code yX8_layHouse cX8_layHouse 5 none :: wsG) { frames := 1, cells := 0, slots := 0, locals := 22 } (PG w [.ref (w.2.1 (147)), .int x1, .int x2, .int x3] h) (QG w (fV x)) 0 0 (AA w) := by
  refine m_entry (own := RX8) (f := fV) hx (by decide) rfl (Nat.le_of_ble_eq_true rfl) (fun p e s m args below meth c C => ?_)
  show GO p l e _ s m args below meth c w 5 fV (f_X8_layHouse h x1 x2 x3) 0 [(0, .ref (w.2.1 (147))), (1, .int x1), (2, .int x2), (3, .int x3)] [] h
  unfold f_X8_layHouse
  refine g_iconst (pc := 0) (v := 0) C dX8_layHouse_0 kc_0 ?_
  refine g_istore (pc := 1) C dX8_layHouse_1 (by decide) (lv' := [(4, .int (0 : Int32)), (0, .ref (w.2.1 (147))), (1, .int x1), (2, .int x2), (3, .int x3)]) rfl ?_
  refine g_lv (lv' := [(0, .ref (w.2.1 (147))), (1, .int x1), (2, .int x2), (3, .int x3), (4, .int (0 : Int32))]) [1, 2, 3, 4, 0] rfl ?_
  exact j_X8_layHouse_3 C KF x1 x2 x3 (0 : Int32) h
/-- SnowHouseModel.begins()V -/
def f_X8_begins_9   : Nat → Int32 → TT → Option TT
  | 0, _, _ => none
  | n + 1, x1, h => (if (60 : Int32) ≤ x1 then some h else (f_X8_put_ h ((32 : Int32) + x1) (-9 : Int32)).bind fun h3 => (f_X8_put_ h3 ((92 : Int32) + x1) (0 : Int32)).bind fun h4 => f_X8_begins_9 n (x1 + (1 : Int32)) h4)
set_option maxRecDepth 20000 in
theorem j_X8_begins_9 {p : Program} {l : Launch} {e : Env} {R : Room} {s : State} {m : MethodId} {args : Array Value} {below : List Frame} {meth : Method} {c : Code} {w : WK} (C : CX p R s m args meth c w RX8 cX8_begins 2 none 1 22)     : ∀ (n : Nat) (x1 : Int32) (h : TT), GO p l e R s m args below meth c w 2 fV (f_X8_begins_9 n x1 h) 9 [(0, .ref (w.2.1 (147))), (1, .int x1)] [] h := by
  intro n
  induction n with
  | zero =>
    intro x1 h
    exact g_none
  | succ n ih =>
    intro x1 h
    rw [f_X8_begins_9]
    refine g_iload_n (pc := 9) C 1 rfl dX8_begins_9 rfl ?_
    refine g_bipush (pc := 10) (v := 60) C dX8_begins_10 kb_60 ?_
    refine g_icmp_ge (pc := 12) (tgt := 40) C dX8_begins_12 (by decide) (fun hc2 => ?_) (fun hc2 => ?_)
    · exact g_vret C dX8_begins_40
    · refine g_aload_n (pc := 15) C 0 rfl dX8_begins_15 rfl ?_
      refine g_bipush (pc := 16) (v := 32) C dX8_begins_16 kb_32 ?_
      refine g_iload_n (pc := 18) C 1 rfl dX8_begins_18 rfl ?_
      refine g_iadd (pc := 19) C dX8_begins_19 ?_
      refine g_bipush (pc := 20) (v := -9) C dX8_begins_20 kb_m9 ?_
      refine g_callV (pc := 22) (rest := []) (g_runV C mv_RX8_163 (fun x1 hx1 => m_X8_put_ hx1) so_RX8 rfl (by decide) rfl rfl (Nat.le_of_ble_eq_true rfl) dX8_begins_22) (fun h3 => ?_)
      refine g_aload_n (pc := 25) C 0 rfl dX8_begins_25 rfl ?_
      refine g_bipush (pc := 26) (v := 92) C dX8_begins_26 kb_92 ?_
      refine g_iload_n (pc := 28) C 1 rfl dX8_begins_28 rfl ?_
      refine g_iadd (pc := 29) C dX8_begins_29 ?_
      refine g_iconst (pc := 30) (v := 0) C dX8_begins_30 kc_0 ?_
      refine g_callV (pc := 31) (rest := []) (g_runV C mv_RX8_163 (fun x1 hx1 => m_X8_put_ hx1) so_RX8 rfl (by decide) rfl rfl (Nat.le_of_ble_eq_true rfl) dX8_begins_31) (fun h4 => ?_)
      refine g_iinc (pc := 34) C 1 rfl dX8_begins_34 (ki_1 _) (by decide) (lv' := [(1, .int (x1 + (1 : Int32))), (0, .ref (w.2.1 (147)))]) rfl ?_
      refine g_goto (pc := 37) (tgt := 9) C dX8_begins_37 (by decide) ?_
      refine g_lv (lv' := [(0, .ref (w.2.1 (147))), (1, .int (x1 + (1 : Int32)))]) [1, 0] rfl ?_
      exact ih (x1 + (1 : Int32)) h4
def f_X8_begins (h : TT)  : Option TT := (f_X8_put_ h (31 : Int32) (0 : Int32)).bind fun h1 => f_X8_begins_9 KF (0 : Int32) h1
set_option maxRecDepth 20000 in
theorem m_X8_begins {l : Launch} {w : WK} {h : TT}  {x : TT} (hx : f_X8_begins h  = some x)  : Met l yX8_begins (Cond.code yX8_begins cX8_begins 2 none :: wsG) { frames := 1, cells := 0, slots := 0, locals := 22 } (PG w [.ref (w.2.1 (147))] h) (QG w (fV x)) 0 0 (AA w) := by
  refine m_entry (own := RX8) (f := fV) hx (by decide) rfl (Nat.le_of_ble_eq_true rfl) (fun p e s m args below meth c C => ?_)
  show GO p l e _ s m args below meth c w 2 fV (f_X8_begins h ) 0 [(0, .ref (w.2.1 (147)))] [] h
  unfold f_X8_begins
  refine g_aload_n (pc := 0) C 0 rfl dX8_begins_0 rfl ?_
  refine g_bipush (pc := 1) (v := 31) C dX8_begins_1 kb_31 ?_
  refine g_iconst (pc := 3) (v := 0) C dX8_begins_3 kc_0 ?_
  refine g_callV (pc := 4) (rest := []) (g_runV C mv_RX8_163 (fun x1 hx1 => m_X8_put_ hx1) so_RX8 rfl (by decide) rfl rfl (Nat.le_of_ble_eq_true rfl) dX8_begins_4) (fun h1 => ?_)
  refine g_iconst (pc := 7) (v := 0) C dX8_begins_7 kc_0 ?_
  refine g_istore_n (pc := 8) C dX8_begins_8 rfl (by decide) (lv' := [(1, .int (0 : Int32)), (0, .ref (w.2.1 (147)))]) rfl ?_
  refine g_lv (lv' := [(0, .ref (w.2.1 (147))), (1, .int (0 : Int32))]) [1, 0] rfl ?_
  exact j_X8_begins_9 C KF (0 : Int32) h1
/-- SnowHouseModel.house(III)I -/
def f_X8_house_43    (h : TT) : Option (Int32 × TT) := (f_X8_meets h (1 : Int32)).bind fun q9 => some (q9.1, q9.2)
set_option maxRecDepth 20000 in
theorem j_X8_house_43 {p : Program} {l : Launch} {e : Env} {R : Room} {s : State} {m : MethodId} {args : Array Value} {below : List Frame} {meth : Method} {c : Code} {w : WK} (C : CX p R s m args meth c w RX8 cX8_house 4 (some .int) 4 85)       (h : TT) : GO p l e R s m args below meth c w 4 fIT (f_X8_house_43 h) 43 [(0, .ref (w.2.1 (147)))] [] h := by
  unfold f_X8_house_43
  refine g_aload_n (pc := 43) C 0 rfl dX8_house_43 rfl ?_
  refine g_iconst (pc := 44) (v := 1) C dX8_house_44 kc_1 ?_
  refine g_callIT (pc := 45) (rest := []) (g_runV C mv_RX8_85 (fun x1 hx1 => m_X8_meets hx1) so_RX8 rfl (by decide) rfl rfl (Nat.le_of_ble_eq_true rfl) dX8_house_45) (fun q9 => ?_)
  exact g_iretT C dX8_house_48
def f_X8_house (h : TT) (x1 : Int32) (x2 : Int32) (x3 : Int32) : Option (Int32 × TT) := (f_X8_isPlace h x1).bind fun r1 => (if r1 = 0 then some ((-1 : Int32), h) else (f_X8_isPlace h x2).bind fun r3 => (if r3 = 0 then some ((-1 : Int32), h) else (f_X8_in h x3 (1 : Int32) (2 : Int32)).bind fun r5 => (if r5 = 0 then some ((-1 : Int32), h) else if inb x1 4 = true then (if (h.1 154 x1.toNatClampNeg) = 0 then f_X8_house_43 h else if inb x2 4 = true then (if (h.1 156 x2.toNatClampNeg) = 0 then f_X8_house_43 h else (f_X8_look h (0 : Int32)).bind fun h12 => (f_X8_layHouse h12 x1 x2 x3).bind fun h13 => (f_X8_begins h13).bind fun h14 => if inb (0 : Int32) 4 = true then nm (wr h14 160 (0 : Int32).toNatClampNeg (vp_nar .boolean (1 : Int32))) fun h16 => (f_X8_all h16).bind fun r17 => some (r17, h16) else none) else none) else none)))
set_option maxRecDepth 20000 in
theorem m_X8_house {l : Launch} {w : WK} {h : TT} {x1 : Int32} {x2 : Int32} {x3 : Int32} {x : (Int32 × TT)} (hx : f_X8_house h x1 x2 x3 = some x)  : Met l yX8_house (Cond.code yX8_house cX8_house 4 (some .int) :: wsG) { frames := 4, cells := 0, slots := 0, locals := 85 } (PG w [.ref (w.2.1 (147)), .int x1, .int x2, .int x3] h) (QG w (fIT x)) 0 0 (AA w) := by
  refine m_entry (own := RX8) (f := fIT) hx (by decide) rfl (Nat.le_of_ble_eq_true rfl) (fun p e s m args below meth c C => ?_)
  show GO p l e _ s m args below meth c w 4 fIT (f_X8_house h x1 x2 x3) 0 [(0, .ref (w.2.1 (147))), (1, .int x1), (2, .int x2), (3, .int x3)] [] h
  unfold f_X8_house
  refine g_iload_n (pc := 0) C 1 rfl dX8_house_0 rfl ?_
  refine g_callI (pc := 1) (rest := []) (g_runS C ms_RX8_136 (fun x1 hx1 => m_X8_isPlace hx1) (by decide) rfl rfl (Nat.le_of_ble_eq_true rfl) dX8_house_1) (fun r1 => ?_)
  refine g_if_eq (pc := 4) (tgt := 23) C dX8_house_4 (by decide) (fun hc2 => ?_) (fun hc2 => ?_)
  · refine g_iconst (pc := 23) (v := -1) C dX8_house_23 kc_m1 ?_
    exact g_iretT C dX8_house_24
  · refine g_iload_n (pc := 7) C 2 rfl dX8_house_7 rfl ?_
    refine g_callI (pc := 8) (rest := []) (g_runS C ms_RX8_136 (fun x1 hx1 => m_X8_isPlace hx1) (by decide) rfl rfl (Nat.le_of_ble_eq_true rfl) dX8_house_8) (fun r3 => ?_)
    refine g_if_eq (pc := 11) (tgt := 23) C dX8_house_11 (by decide) (fun hc4 => ?_) (fun hc4 => ?_)
    · refine g_iconst (pc := 23) (v := -1) C dX8_house_23 kc_m1 ?_
      exact g_iretT C dX8_house_24
    · refine g_iload_n (pc := 14) C 3 rfl dX8_house_14 rfl ?_
      refine g_iconst (pc := 15) (v := 1) C dX8_house_15 kc_1 ?_
      refine g_iconst (pc := 16) (v := 2) C dX8_house_16 kc_2 ?_
      refine g_callI (pc := 17) (rest := []) (g_runS C ms_RX8_71 (fun x1 hx1 => m_X8_in hx1) (by decide) rfl rfl (Nat.le_of_ble_eq_true rfl) dX8_house_17) (fun r5 => ?_)
      refine g_if_ne (pc := 20) (tgt := 25) C dX8_house_20 (by decide) (fun hc6 => ?_) (fun hc6 => ?_)
      · refine g_iconst (pc := 23) (v := -1) C dX8_house_23 kc_m1 ?_
        exact g_iretT C dX8_house_24
      · refine g_aload_n (pc := 25) C 0 rfl dX8_house_25 rfl ?_
        refine g_get (pc := 26) C so_RX8 10 fl_RX8_29 (v := .ref (w.2.1 (154))) rfl dX8_house_26 ?_
        refine g_iload_n (pc := 29) C 1 rfl dX8_house_29 rfl ?_
        refine g_zald (pc := 30) C sz_154 dX8_house_30 (fun hb7 => ?_)
        refine g_if_eq (pc := 31) (tgt := 43) C dX8_house_31 (by decide) (fun hc8 => ?_) (fun hc8 => ?_)
        · refine g_lv (lv' := [(0, .ref (w.2.1 (147)))]) [0] rfl ?_
          exact j_X8_house_43 C h
        · refine g_aload_n (pc := 34) C 0 rfl dX8_house_34 rfl ?_
          refine g_get (pc := 35) C so_RX8 12 fl_RX8_36 (v := .ref (w.2.1 (156))) rfl dX8_house_35 ?_
          refine g_iload_n (pc := 38) C 2 rfl dX8_house_38 rfl ?_
          refine g_zald (pc := 39) C sz_156 dX8_house_39 (fun hb10 => ?_)
          refine g_if_ne (pc := 40) (tgt := 49) C dX8_house_40 (by decide) (fun hc11 => ?_) (fun hc11 => ?_)
          · refine g_lv (lv' := [(0, .ref (w.2.1 (147)))]) [0] rfl ?_
            exact j_X8_house_43 C h
          · refine g_aload_n (pc := 49) C 0 rfl dX8_house_49 rfl ?_
            refine g_iconst (pc := 50) (v := 0) C dX8_house_50 kc_0 ?_
            refine g_callV (pc := 51) (rest := []) (g_runV C mv_RX8_167 (fun x1 hx1 => m_X8_look hx1) so_RX8 rfl (by decide) rfl rfl (Nat.le_of_ble_eq_true rfl) dX8_house_51) (fun h12 => ?_)
            refine g_aload_n (pc := 54) C 0 rfl dX8_house_54 rfl ?_
            refine g_iload_n (pc := 55) C 1 rfl dX8_house_55 rfl ?_
            refine g_iload_n (pc := 56) C 2 rfl dX8_house_56 rfl ?_
            refine g_iload_n (pc := 57) C 3 rfl dX8_house_57 rfl ?_
            refine g_callV (pc := 58) (rest := []) (g_runV C mv_RX8_171 (fun x1 hx1 => m_X8_layHouse hx1) so_RX8 rfl (by decide) rfl rfl (Nat.le_of_ble_eq_true rfl) dX8_house_58) (fun h13 => ?_)
            refine g_aload_n (pc := 61) C 0 rfl dX8_house_61 rfl ?_
            refine g_callV (pc := 62) (rest := []) (g_runV C mv_RX8_175 (fun x1 hx1 => m_X8_begins hx1) so_RX8 rfl (by decide) rfl rfl (Nat.le_of_ble_eq_true rfl) dX8_house_62) (fun h14 => ?_)
            refine g_aload_n (pc := 65) C 0 rfl dX8_house_65 rfl ?_
            refine g_get (pc := 66) C so_RX8 20 fl_RX8_48 (v := .ref (w.2.1 (160))) rfl dX8_house_66 ?_
            refine g_iconst (pc := 69) (v := 0) C dX8_house_69 kc_0 ?_
            refine g_iconst (pc := 70) (v := 1) C dX8_house_70 kc_1 ?_
            refine g_zast (pc := 71) C sz_160 dX8_house_71 (fun hb15 => ?_)
            refine g_nm (fun h16 => ?_)
            refine g_aload_n (pc := 72) C 0 rfl dX8_house_72 rfl ?_
            refine g_callI (pc := 73) (rest := []) (g_runV C mv_RX8_178 (fun x1 hx1 => m_X8_all hx1) so_RX8 rfl (by decide) rfl rfl (Nat.le_of_ble_eq_true rfl) dX8_house_73) (fun r17 => ?_)
            exact g_iretT C dX8_house_76
/-- SnowHouseModel.hasSlumped(I)Z -/
def f_X8_hasSlumped (h : TT) (x1 : Int32) : Option Int32 := (f_X8_v h ((32 : Int32) + x1)).bind fun r1 => (if r1 = (-9 : Int32) then some (0 : Int32) else some (1 : Int32))
set_option maxRecDepth 20000 in
theorem m_X8_hasSlumped {l : Launch} {w : WK} {h : TT} {x1 : Int32} {x : Int32} (hx : f_X8_hasSlumped h x1 = some x)  : Met l yX8_hasSlumped (Cond.code yX8_hasSlumped cX8_hasSlumped 2 (some .boolean) :: wsG) { frames := 1, cells := 0, slots := 0, locals := 21 } (PG w [.ref (w.2.1 (147)), .int x1] h) (QG w ((fI h) x)) 0 0 (AA w) := by
  refine m_entry (own := RX8) (f := (fI h)) hx (by decide) rfl (Nat.le_of_ble_eq_true rfl) (fun p e s m args below meth c C => ?_)
  show GO p l e _ s m args below meth c w 2 (fI h) (f_X8_hasSlumped h x1) 0 [(0, .ref (w.2.1 (147))), (1, .int x1)] [] h
  unfold f_X8_hasSlumped
  refine g_aload_n (pc := 0) C 0 rfl dX8_hasSlumped_0 rfl ?_
  refine g_bipush (pc := 1) (v := 32) C dX8_hasSlumped_1 kb_32 ?_
  refine g_iload_n (pc := 3) C 1 rfl dX8_hasSlumped_3 rfl ?_
  refine g_iadd (pc := 4) C dX8_hasSlumped_4 ?_
  refine g_callI (pc := 5) (rest := []) (g_runV C mv_RX8_154 (fun x1 hx1 => m_X8_v hx1) so_RX8 rfl (by decide) rfl rfl (Nat.le_of_ble_eq_true rfl) dX8_hasSlumped_5) (fun r1 => ?_)
  refine g_bipush (pc := 8) (v := -9) C dX8_hasSlumped_8 kb_m9 ?_
  refine g_icmp_eq (pc := 10) (tgt := 17) C dX8_hasSlumped_10 (by decide) (fun hc2 => ?_) (fun hc2 => ?_)
  · refine g_iconst (pc := 17) (v := 0) C dX8_hasSlumped_17 kc_0 ?_
    exact g_zret C dX8_hasSlumped_18 rfl
  · refine g_iconst (pc := 13) (v := 1) C dX8_hasSlumped_13 kc_1 ?_
    refine g_goto (pc := 14) (tgt := 18) C dX8_hasSlumped_14 (by decide) ?_
    exact g_zret C dX8_hasSlumped_18 rfl
/-- SnowHouseModel.isCut(I)Z -/
def f_X8_isCut (h : TT) (x1 : Int32) : Option Int32 := (f_X8_v h ((92 : Int32) + x1)).bind fun r1 => (if r1 = (1 : Int32) then some (1 : Int32) else some (0 : Int32))
set_option maxRecDepth 20000 in
theorem m_X8_isCut {l : Launch} {w : WK} {h : TT} {x1 : Int32} {x : Int32} (hx : f_X8_isCut h x1 = some x)  : Met l yX8_isCut (Cond.code yX8_isCut cX8_isCut 2 (some .boolean) :: wsG) { frames := 1, cells := 0, slots := 0, locals := 21 } (PG w [.ref (w.2.1 (147)), .int x1] h) (QG w ((fI h) x)) 0 0 (AA w) := by
  refine m_entry (own := RX8) (f := (fI h)) hx (by decide) rfl (Nat.le_of_ble_eq_true rfl) (fun p e s m args below meth c C => ?_)
  show GO p l e _ s m args below meth c w 2 (fI h) (f_X8_isCut h x1) 0 [(0, .ref (w.2.1 (147))), (1, .int x1)] [] h
  unfold f_X8_isCut
  refine g_aload_n (pc := 0) C 0 rfl dX8_isCut_0 rfl ?_
  refine g_bipush (pc := 1) (v := 92) C dX8_isCut_1 kb_92 ?_
  refine g_iload_n (pc := 3) C 1 rfl dX8_isCut_3 rfl ?_
  refine g_iadd (pc := 4) C dX8_isCut_4 ?_
  refine g_callI (pc := 5) (rest := []) (g_runV C mv_RX8_154 (fun x1 hx1 => m_X8_v hx1) so_RX8 rfl (by decide) rfl rfl (Nat.le_of_ble_eq_true rfl) dX8_isCut_5) (fun r1 => ?_)
  refine g_iconst (pc := 8) (v := 1) C dX8_isCut_8 kc_1 ?_
  refine g_icmp_ne (pc := 9) (tgt := 16) C dX8_isCut_9 (by decide) (fun hc2 => ?_) (fun hc2 => ?_)
  · refine g_iconst (pc := 12) (v := 1) C dX8_isCut_12 kc_1 ?_
    refine g_goto (pc := 13) (tgt := 17) C dX8_isCut_13 (by decide) ?_
    exact g_zret C dX8_isCut_17 rfl
  · refine g_iconst (pc := 16) (v := 0) C dX8_isCut_16 kc_0 ?_
    exact g_zret C dX8_isCut_17 rfl
/-- SnowHouseModel.isLaid(I)Z -/
def f_X8_isLaid (h : TT) (x1 : Int32) : Option Int32 := (f_X8_v h (31 : Int32)).bind fun r1 => (if r1 ≤ x1 then some (0 : Int32) else some (1 : Int32))
set_option maxRecDepth 20000 in
theorem m_X8_isLaid {l : Launch} {w : WK} {h : TT} {x1 : Int32} {x : Int32} (hx : f_X8_isLaid h x1 = some x)  : Met l yX8_isLaid (Cond.code yX8_isLaid cX8_isLaid 2 (some .boolean) :: wsG) { frames := 1, cells := 0, slots := 0, locals := 21 } (PG w [.ref (w.2.1 (147)), .int x1] h) (QG w ((fI h) x)) 0 0 (AA w) := by
  refine m_entry (own := RX8) (f := (fI h)) hx (by decide) rfl (Nat.le_of_ble_eq_true rfl) (fun p e s m args below meth c C => ?_)
  show GO p l e _ s m args below meth c w 2 (fI h) (f_X8_isLaid h x1) 0 [(0, .ref (w.2.1 (147))), (1, .int x1)] [] h
  unfold f_X8_isLaid
  refine g_iload_n (pc := 0) C 1 rfl dX8_isLaid_0 rfl ?_
  refine g_aload_n (pc := 1) C 0 rfl dX8_isLaid_1 rfl ?_
  refine g_bipush (pc := 2) (v := 31) C dX8_isLaid_2 kb_31 ?_
  refine g_callI (pc := 4) (rest := [.int x1]) (g_runV C mv_RX8_154 (fun x1 hx1 => m_X8_v hx1) so_RX8 rfl (by decide) rfl rfl (Nat.le_of_ble_eq_true rfl) dX8_isLaid_4) (fun r1 => ?_)
  refine g_icmp_ge (pc := 7) (tgt := 14) C dX8_isLaid_7 (by decide) (fun hc2 => ?_) (fun hc2 => ?_)
  · refine g_iconst (pc := 14) (v := 0) C dX8_isLaid_14 kc_0 ?_
    exact g_zret C dX8_isLaid_15 rfl
  · refine g_iconst (pc := 10) (v := 1) C dX8_isLaid_10 kc_1 ?_
    refine g_goto (pc := 11) (tgt := 15) C dX8_isLaid_11 (by decide) ?_
    exact g_zret C dX8_isLaid_15 rfl
/-- SnowHouseModel.isSound(I)Z -/
def f_X8_isSound (h : TT) (x1 : Int32) : Option Int32 := (f_X8_isLaid h x1).bind fun r1 => (if r1 = 0 then some (0 : Int32) else (f_X8_hasSlumped h x1).bind fun r3 => (if r3 = 0 then (f_X8_isCut h x1).bind fun r5 => (if r5 = 0 then some (1 : Int32) else some (0 : Int32)) else some (0 : Int32)))
set_option maxRecDepth 20000 in
theorem m_X8_isSound {l : Launch} {w : WK} {h : TT} {x1 : Int32} {x : Int32} (hx : f_X8_isSound h x1 = some x)  : Met l yX8_isSound (Cond.code yX8_isSound cX8_isSound 2 (some .boolean) :: wsG) { frames := 2, cells := 0, slots := 0, locals := 42 } (PG w [.ref (w.2.1 (147)), .int x1] h) (QG w ((fI h) x)) 0 0 (AA w) := by
  refine m_entry (own := RX8) (f := (fI h)) hx (by decide) rfl (Nat.le_of_ble_eq_true rfl) (fun p e s m args below meth c C => ?_)
  show GO p l e _ s m args below meth c w 2 (fI h) (f_X8_isSound h x1) 0 [(0, .ref (w.2.1 (147))), (1, .int x1)] [] h
  unfold f_X8_isSound
  refine g_aload_n (pc := 0) C 0 rfl dX8_isSound_0 rfl ?_
  refine g_iload_n (pc := 1) C 1 rfl dX8_isSound_1 rfl ?_
  refine g_callI (pc := 2) (rest := []) (g_runV C mv_RX8_182 (fun x1 hx1 => m_X8_isLaid hx1) so_RX8 rfl (by decide) rfl rfl (Nat.le_of_ble_eq_true rfl) dX8_isSound_2) (fun r1 => ?_)
  refine g_if_eq (pc := 5) (tgt := 28) C dX8_isSound_5 (by decide) (fun hc2 => ?_) (fun hc2 => ?_)
  · refine g_iconst (pc := 28) (v := 0) C dX8_isSound_28 kc_0 ?_
    exact g_zret C dX8_isSound_29 rfl
  · refine g_aload_n (pc := 8) C 0 rfl dX8_isSound_8 rfl ?_
    refine g_iload_n (pc := 9) C 1 rfl dX8_isSound_9 rfl ?_
    refine g_callI (pc := 10) (rest := []) (g_runV C mv_RX8_185 (fun x1 hx1 => m_X8_hasSlumped hx1) so_RX8 rfl (by decide) rfl rfl (Nat.le_of_ble_eq_true rfl) dX8_isSound_10) (fun r3 => ?_)
    refine g_if_ne (pc := 13) (tgt := 28) C dX8_isSound_13 (by decide) (fun hc4 => ?_) (fun hc4 => ?_)
    · refine g_aload_n (pc := 16) C 0 rfl dX8_isSound_16 rfl ?_
      refine g_iload_n (pc := 17) C 1 rfl dX8_isSound_17 rfl ?_
      refine g_callI (pc := 18) (rest := []) (g_runV C mv_RX8_188 (fun x1 hx1 => m_X8_isCut hx1) so_RX8 rfl (by decide) rfl rfl (Nat.le_of_ble_eq_true rfl) dX8_isSound_18) (fun r5 => ?_)
      refine g_if_ne (pc := 21) (tgt := 28) C dX8_isSound_21 (by decide) (fun hc6 => ?_) (fun hc6 => ?_)
      · refine g_iconst (pc := 24) (v := 1) C dX8_isSound_24 kc_1 ?_
        refine g_goto (pc := 25) (tgt := 29) C dX8_isSound_25 (by decide) ?_
        exact g_zret C dX8_isSound_29 rfl
      · refine g_iconst (pc := 28) (v := 0) C dX8_isSound_28 kc_0 ?_
        exact g_zret C dX8_isSound_29 rfl
    · refine g_iconst (pc := 28) (v := 0) C dX8_isSound_28 kc_0 ?_
      exact g_zret C dX8_isSound_29 rfl
/-- SnowHouseModel.restsOn(I)I -/
def f_X8_restsOn (h : TT) (x1 : Int32) : Option Int32 := (f_X8_courseOf h x1).bind fun r1 => (if r1 = 0 then some (-9 : Int32) else (f_X8_start h (r1 - (1 : Int32))).bind fun r3 => (f_X8_start h r1).bind fun r4 => (f_X8_size h (r1 - (1 : Int32))).bind fun r5 => (f_X8_size h r1).bind fun r6 => if r6 = 0 then none else some (r3 + (((x1 - r4) * r5) / r6)))
set_option maxRecDepth 20000 in
theorem m_X8_restsOn {l : Launch} {w : WK} {h : TT} {x1 : Int32} {x : Int32} (hx : f_X8_restsOn h x1 = some x)  : Met l yX8_restsOn (Cond.code yX8_restsOn cX8_restsOn 3 (some .int) :: wsG) { frames := 3, cells := 0, slots := 0, locals := 65 } (PG w [.ref (w.2.1 (147)), .int x1] h) (QG w ((fI h) x)) 0 0 (AA w) := by
  refine m_entry (own := RX8) (f := (fI h)) hx (by decide) rfl (Nat.le_of_ble_eq_true rfl) (fun p e s m args below meth c C => ?_)
  show GO p l e _ s m args below meth c w 3 (fI h) (f_X8_restsOn h x1) 0 [(0, .ref (w.2.1 (147))), (1, .int x1)] [] h
  unfold f_X8_restsOn
  refine g_aload_n (pc := 0) C 0 rfl dX8_restsOn_0 rfl ?_
  refine g_iload_n (pc := 1) C 1 rfl dX8_restsOn_1 rfl ?_
  refine g_callI (pc := 2) (rest := []) (g_runV C mv_RX8_191 (fun x1 hx1 => m_X8_courseOf hx1) so_RX8 rfl (by decide) rfl rfl (Nat.le_of_ble_eq_true rfl) dX8_restsOn_2) (fun r1 => ?_)
  refine g_istore_n (pc := 5) C dX8_restsOn_5 rfl (by decide) (lv' := [(2, .int r1), (0, .ref (w.2.1 (147))), (1, .int x1)]) rfl ?_
  refine g_iload_n (pc := 6) C 0 rfl dX8_restsOn_6 rfl ?_
  refine g_if_ne (pc := 7) (tgt := 15) C dX8_restsOn_7 (by decide) (fun hc2 => ?_) (fun hc2 => ?_)
  · refine g_bipush (pc := 10) (v := -9) C dX8_restsOn_10 kb_m9 ?_
    refine g_goto (pc := 12) (tgt := 44) C dX8_restsOn_12 (by decide) ?_
    exact g_iret C dX8_restsOn_44
  · refine g_aload_n (pc := 15) C 1 rfl dX8_restsOn_15 rfl ?_
    refine g_iload_n (pc := 16) C 0 rfl dX8_restsOn_16 rfl ?_
    refine g_iconst (pc := 17) (v := 1) C dX8_restsOn_17 kc_1 ?_
    refine g_isub (pc := 18) C dX8_restsOn_18 ?_
    refine g_callI (pc := 19) (rest := []) (g_runV C mv_RX8_160 (fun x1 hx1 => m_X8_start hx1) so_RX8 rfl (by decide) rfl rfl (Nat.le_of_ble_eq_true rfl) dX8_restsOn_19) (fun r3 => ?_)
    refine g_iload_n (pc := 22) C 2 rfl dX8_restsOn_22 rfl ?_
    refine g_aload_n (pc := 23) C 1 rfl dX8_restsOn_23 rfl ?_
    refine g_iload_n (pc := 24) C 0 rfl dX8_restsOn_24 rfl ?_
    refine g_callI (pc := 25) (rest := [.int x1, .int r3]) (g_runV C mv_RX8_160 (fun x1 hx1 => m_X8_start hx1) so_RX8 rfl (by decide) rfl rfl (Nat.le_of_ble_eq_true rfl) dX8_restsOn_25) (fun r4 => ?_)
    refine g_isub (pc := 28) C dX8_restsOn_28 ?_
    refine g_aload_n (pc := 29) C 1 rfl dX8_restsOn_29 rfl ?_
    refine g_iload_n (pc := 30) C 0 rfl dX8_restsOn_30 rfl ?_
    refine g_iconst (pc := 31) (v := 1) C dX8_restsOn_31 kc_1 ?_
    refine g_isub (pc := 32) C dX8_restsOn_32 ?_
    refine g_callI (pc := 33) (rest := [.int (x1 - r4), .int r3]) (g_runV C mv_RX8_157 (fun x1 hx1 => m_X8_size hx1) so_RX8 rfl (by decide) rfl rfl (Nat.le_of_ble_eq_true rfl) dX8_restsOn_33) (fun r5 => ?_)
    refine g_imul (pc := 36) C dX8_restsOn_36 ?_
    refine g_aload_n (pc := 37) C 1 rfl dX8_restsOn_37 rfl ?_
    refine g_iload_n (pc := 38) C 0 rfl dX8_restsOn_38 rfl ?_
    refine g_callI (pc := 39) (rest := [.int ((x1 - r4) * r5), .int r3]) (g_runV C mv_RX8_157 (fun x1 hx1 => m_X8_size hx1) so_RX8 rfl (by decide) rfl rfl (Nat.le_of_ble_eq_true rfl) dX8_restsOn_39) (fun r6 => ?_)
    refine g_guardp (fun hz7 => ?_)
    refine g_idiv (pc := 42) C dX8_restsOn_42 hz7 ?_
    refine g_iadd (pc := 43) C dX8_restsOn_43 ?_
    exact g_iret C dX8_restsOn_44
/-- SnowHouseModel.restsToo(I)I -/
def f_X8_restsToo (h : TT) (x1 : Int32) : Option Int32 := (f_X8_courseOf h x1).bind fun r1 => (f_X8_start h (r1 - (1 : Int32))).bind fun r2 => (f_X8_restsOn h x1).bind fun r3 => (f_X8_size h (r1 - (1 : Int32))).bind fun r4 => if r4 = 0 then none else some (r2 + (((r3 - r2) + (1 : Int32)) - ((r3 - r2) + (1 : Int32)) / r4 * r4))
set_option maxRecDepth 20000 in
theorem m_X8_restsToo {l : Launch} {w : WK} {h : TT} {x1 : Int32} {x : Int32} (hx : f_X8_restsToo h x1 = some x)  : Met l yX8_restsToo (Cond.code yX8_restsToo cX8_restsToo 4 (some .int) :: wsG) { frames := 4, cells := 0, slots := 0, locals := 87 } (PG w [.ref (w.2.1 (147)), .int x1] h) (QG w ((fI h) x)) 0 0 (AA w) := by
  refine m_entry (own := RX8) (f := (fI h)) hx (by decide) rfl (Nat.le_of_ble_eq_true rfl) (fun p e s m args below meth c C => ?_)
  show GO p l e _ s m args below meth c w 4 (fI h) (f_X8_restsToo h x1) 0 [(0, .ref (w.2.1 (147))), (1, .int x1)] [] h
  unfold f_X8_restsToo
  refine g_aload_n (pc := 0) C 0 rfl dX8_restsToo_0 rfl ?_
  refine g_iload_n (pc := 1) C 1 rfl dX8_restsToo_1 rfl ?_
  refine g_callI (pc := 2) (rest := []) (g_runV C mv_RX8_191 (fun x1 hx1 => m_X8_courseOf hx1) so_RX8 rfl (by decide) rfl rfl (Nat.le_of_ble_eq_true rfl) dX8_restsToo_2) (fun r1 => ?_)
  refine g_istore_n (pc := 5) C dX8_restsToo_5 rfl (by decide) (lv' := [(2, .int r1), (0, .ref (w.2.1 (147))), (1, .int x1)]) rfl ?_
  refine g_aload_n (pc := 6) C 1 rfl dX8_restsToo_6 rfl ?_
  refine g_iload_n (pc := 7) C 0 rfl dX8_restsToo_7 rfl ?_
  refine g_iconst (pc := 8) (v := 1) C dX8_restsToo_8 kc_1 ?_
  refine g_isub (pc := 9) C dX8_restsToo_9 ?_
  refine g_callI (pc := 10) (rest := []) (g_runV C mv_RX8_160 (fun x1 hx1 => m_X8_start hx1) so_RX8 rfl (by decide) rfl rfl (Nat.le_of_ble_eq_true rfl) dX8_restsToo_10) (fun r2 => ?_)
  refine g_istore_n (pc := 13) C dX8_restsToo_13 rfl (by decide) (lv' := [(3, .int r2), (2, .int r1), (0, .ref (w.2.1 (147))), (1, .int x1)]) rfl ?_
  refine g_iload_n (pc := 14) C 0 rfl dX8_restsToo_14 rfl ?_
  refine g_aload_n (pc := 15) C 2 rfl dX8_restsToo_15 rfl ?_
  refine g_iload_n (pc := 16) C 3 rfl dX8_restsToo_16 rfl ?_
  refine g_callI (pc := 17) (rest := [.int r2]) (g_runV C mv_RX8_194 (fun x1 hx1 => m_X8_restsOn hx1) so_RX8 rfl (by decide) rfl rfl (Nat.le_of_ble_eq_true rfl) dX8_restsToo_17) (fun r3 => ?_)
  refine g_iload_n (pc := 20) C 0 rfl dX8_restsToo_20 rfl ?_
  refine g_isub (pc := 21) C dX8_restsToo_21 ?_
  refine g_iconst (pc := 22) (v := 1) C dX8_restsToo_22 kc_1 ?_
  refine g_iadd (pc := 23) C dX8_restsToo_23 ?_
  refine g_aload_n (pc := 24) C 2 rfl dX8_restsToo_24 rfl ?_
  refine g_iload_n (pc := 25) C 1 rfl dX8_restsToo_25 rfl ?_
  refine g_iconst (pc := 26) (v := 1) C dX8_restsToo_26 kc_1 ?_
  refine g_isub (pc := 27) C dX8_restsToo_27 ?_
  refine g_callI (pc := 28) (rest := [.int ((r3 - r2) + (1 : Int32)), .int r2]) (g_runV C mv_RX8_157 (fun x1 hx1 => m_X8_size hx1) so_RX8 rfl (by decide) rfl rfl (Nat.le_of_ble_eq_true rfl) dX8_restsToo_28) (fun r4 => ?_)
  refine g_guardp (fun hz5 => ?_)
  refine g_irem (pc := 31) C dX8_restsToo_31 hz5 ?_
  refine g_iadd (pc := 32) C dX8_restsToo_32 ?_
  exact g_iret C dX8_restsToo_33
/-- SnowHouseModel.soundNeighbours(I)I -/
def f_X8_soundNeighbours_59 (h : TT)   (xs0 : Int32) (xs1 : Int32) : Option Int32 := some (xs1 + xs0)
set_option maxRecDepth 20000 in
theorem j_X8_soundNeighbours_59 {p : Program} {l : Launch} {e : Env} {R : Room} {s : State} {m : MethodId} {args : Array Value} {below : List Frame} {meth : Method} {c : Code} {w : WK} (C : CX p R s m args meth c w RX8 cX8_soundNeighbours 7 (some .int) 4 85) (h : TT)    (xs0 : Int32) (xs1 : Int32)  : GO p l e R s m args below meth c w 7 (fI h) (f_X8_soundNeighbours_59 h xs0 xs1) 59 [] [.int xs0, .int xs1] h := by
  unfold f_X8_soundNeighbours_59
  refine g_iadd (pc := 59) C dX8_soundNeighbours_59 ?_
  exact g_iret C dX8_soundNeighbours_60
def f_X8_soundNeighbours_58 (h : TT)   (xs0 : Int32) : Option Int32 := f_X8_soundNeighbours_59 h (0 : Int32) xs0
set_option maxRecDepth 20000 in
theorem j_X8_soundNeighbours_58 {p : Program} {l : Launch} {e : Env} {R : Room} {s : State} {m : MethodId} {args : Array Value} {below : List Frame} {meth : Method} {c : Code} {w : WK} (C : CX p R s m args meth c w RX8 cX8_soundNeighbours 7 (some .int) 4 85) (h : TT)    (xs0 : Int32)  : GO p l e R s m args below meth c w 7 (fI h) (f_X8_soundNeighbours_58 h xs0) 58 [] [.int xs0] h := by
  unfold f_X8_soundNeighbours_58
  refine g_iconst (pc := 58) (v := 0) C dX8_soundNeighbours_58 kc_0 ?_
  exact j_X8_soundNeighbours_59 C h (0 : Int32) xs0
def f_X8_soundNeighbours_34 (h : TT)   (x1 : Int32) (xs0 : Int32) : Option Int32 := (f_X8_all h).bind fun r5 => (if r5 ≤ (x1 + (1 : Int32)) then f_X8_soundNeighbours_58 h xs0 else (f_X8_isSound h (x1 + (1 : Int32))).bind fun r7 => (if r7 = 0 then f_X8_soundNeighbours_58 h xs0 else f_X8_soundNeighbours_59 h (1 : Int32) xs0))
set_option maxRecDepth 20000 in
theorem j_X8_soundNeighbours_34 {p : Program} {l : Launch} {e : Env} {R : Room} {s : State} {m : MethodId} {args : Array Value} {below : List Frame} {meth : Method} {c : Code} {w : WK} (C : CX p R s m args meth c w RX8 cX8_soundNeighbours 7 (some .int) 4 85) (h : TT)    (x1 : Int32) (xs0 : Int32)  : GO p l e R s m args below meth c w 7 (fI h) (f_X8_soundNeighbours_34 h x1 xs0) 34 [(0, .ref (w.2.1 (147))), (1, .int x1)] [.int xs0] h := by
  unfold f_X8_soundNeighbours_34
  refine g_iload_n (pc := 34) C 1 rfl dX8_soundNeighbours_34 rfl ?_
  refine g_iconst (pc := 35) (v := 1) C dX8_soundNeighbours_35 kc_1 ?_
  refine g_iadd (pc := 36) C dX8_soundNeighbours_36 ?_
  refine g_aload_n (pc := 37) C 0 rfl dX8_soundNeighbours_37 rfl ?_
  refine g_callI (pc := 38) (rest := [.int (x1 + (1 : Int32)), .int xs0]) (g_runV C mv_RX8_178 (fun x1 hx1 => m_X8_all hx1) so_RX8 rfl (by decide) rfl rfl (Nat.le_of_ble_eq_true rfl) dX8_soundNeighbours_38) (fun r5 => ?_)
  refine g_icmp_ge (pc := 41) (tgt := 58) C dX8_soundNeighbours_41 (by decide) (fun hc6 => ?_) (fun hc6 => ?_)
  · refine g_lv (lv' := []) [] rfl ?_
    exact j_X8_soundNeighbours_58 C h xs0
  · refine g_aload_n (pc := 44) C 0 rfl dX8_soundNeighbours_44 rfl ?_
    refine g_iload_n (pc := 45) C 1 rfl dX8_soundNeighbours_45 rfl ?_
    refine g_iconst (pc := 46) (v := 1) C dX8_soundNeighbours_46 kc_1 ?_
    refine g_iadd (pc := 47) C dX8_soundNeighbours_47 ?_
    refine g_callI (pc := 48) (rest := [.int xs0]) (g_runV C mv_RX8_200 (fun x1 hx1 => m_X8_isSound hx1) so_RX8 rfl (by decide) rfl rfl (Nat.le_of_ble_eq_true rfl) dX8_soundNeighbours_48) (fun r7 => ?_)
    refine g_if_eq (pc := 51) (tgt := 58) C dX8_soundNeighbours_51 (by decide) (fun hc8 => ?_) (fun hc8 => ?_)
    · refine g_lv (lv' := []) [] rfl ?_
      exact j_X8_soundNeighbours_58 C h xs0
    · refine g_iconst (pc := 54) (v := 1) C dX8_soundNeighbours_54 kc_1 ?_
      refine g_goto (pc := 55) (tgt := 59) C dX8_soundNeighbours_55 (by decide) ?_
      refine g_lv (lv' := []) [] rfl ?_
      exact j_X8_soundNeighbours_59 C h (1 : Int32) xs0
def f_X8_soundNeighbours_33 (h : TT)   (x1 : Int32) : Option Int32 := f_X8_soundNeighbours_34 h x1 (0 : Int32)
set_option maxRecDepth 20000 in
theorem j_X8_soundNeighbours_33 {p : Program} {l : Launch} {e : Env} {R : Room} {s : State} {m : MethodId} {args : Array Value} {below : List Frame} {meth : Method} {c : Code} {w : WK} (C : CX p R s m args meth c w RX8 cX8_soundNeighbours 7 (some .int) 4 85) (h : TT)    (x1 : Int32)  : GO p l e R s m args below meth c w 7 (fI h) (f_X8_soundNeighbours_33 h x1) 33 [(0, .ref (w.2.1 (147))), (1, .int x1)] [] h := by
  unfold f_X8_soundNeighbours_33
  refine g_iconst (pc := 33) (v := 0) C dX8_soundNeighbours_33 kc_0 ?_
  exact j_X8_soundNeighbours_34 C h x1 (0 : Int32)
def f_X8_soundNeighbours_148 (h : TT)   (xs0 : Int32) (xs1 : Int32) : Option Int32 := some (xs1 + xs0)
set_option maxRecDepth 20000 in
theorem j_X8_soundNeighbours_148 {p : Program} {l : Launch} {e : Env} {R : Room} {s : State} {m : MethodId} {args : Array Value} {below : List Frame} {meth : Method} {c : Code} {w : WK} (C : CX p R s m args meth c w RX8 cX8_soundNeighbours 7 (some .int) 4 85) (h : TT)    (xs0 : Int32) (xs1 : Int32)  : GO p l e R s m args below meth c w 7 (fI h) (f_X8_soundNeighbours_148 h xs0 xs1) 148 [] [.int xs0, .int xs1] h := by
  unfold f_X8_soundNeighbours_148
  refine g_iadd (pc := 148) C dX8_soundNeighbours_148 ?_
  exact g_iret C dX8_soundNeighbours_149
def f_X8_soundNeighbours_147 (h : TT)   (xs0 : Int32) : Option Int32 := f_X8_soundNeighbours_148 h (0 : Int32) xs0
set_option maxRecDepth 20000 in
theorem j_X8_soundNeighbours_147 {p : Program} {l : Launch} {e : Env} {R : Room} {s : State} {m : MethodId} {args : Array Value} {below : List Frame} {meth : Method} {c : Code} {w : WK} (C : CX p R s m args meth c w RX8 cX8_soundNeighbours 7 (some .int) 4 85) (h : TT)    (xs0 : Int32)  : GO p l e R s m args below meth c w 7 (fI h) (f_X8_soundNeighbours_147 h xs0) 147 [] [.int xs0] h := by
  unfold f_X8_soundNeighbours_147
  refine g_iconst (pc := 147) (v := 0) C dX8_soundNeighbours_147 kc_0 ?_
  exact j_X8_soundNeighbours_148 C h (0 : Int32) xs0
def f_X8_soundNeighbours_121 (h : TT)   (x1 : Int32) (x5 : Int32) (x6 : Int32) (xs0 : Int32) : Option Int32 := (if x6 = x1 then f_X8_soundNeighbours_147 h xs0 else (if x6 = x5 then f_X8_soundNeighbours_147 h xs0 else (f_X8_isSound h x6).bind fun r20 => (if r20 = 0 then f_X8_soundNeighbours_147 h xs0 else f_X8_soundNeighbours_148 h (1 : Int32) xs0)))
set_option maxRecDepth 20000 in
theorem j_X8_soundNeighbours_121 {p : Program} {l : Launch} {e : Env} {R : Room} {s : State} {m : MethodId} {args : Array Value} {below : List Frame} {meth : Method} {c : Code} {w : WK} (C : CX p R s m args meth c w RX8 cX8_soundNeighbours 7 (some .int) 4 85) (h : TT)    (x1 : Int32) (x5 : Int32) (x6 : Int32) (xs0 : Int32)  : GO p l e R s m args below meth c w 7 (fI h) (f_X8_soundNeighbours_121 h x1 x5 x6 xs0) 121 [(0, .ref (w.2.1 (147))), (1, .int x1), (5, .int x5), (6, .int x6)] [.int xs0] h := by
  unfold f_X8_soundNeighbours_121
  refine g_iload (pc := 121) C 3 rfl dX8_soundNeighbours_121 ?_
  refine g_iload_n (pc := 123) C 1 rfl dX8_soundNeighbours_123 rfl ?_
  refine g_icmp_eq (pc := 124) (tgt := 147) C dX8_soundNeighbours_124 (by decide) (fun hc18 => ?_) (fun hc18 => ?_)
  · refine g_lv (lv' := []) [] rfl ?_
    exact j_X8_soundNeighbours_147 C h xs0
  · refine g_iload (pc := 127) C 3 rfl dX8_soundNeighbours_127 ?_
    refine g_iload (pc := 129) C 2 rfl dX8_soundNeighbours_129 ?_
    refine g_icmp_eq (pc := 131) (tgt := 147) C dX8_soundNeighbours_131 (by decide) (fun hc19 => ?_) (fun hc19 => ?_)
    · refine g_lv (lv' := []) [] rfl ?_
      exact j_X8_soundNeighbours_147 C h xs0
    · refine g_aload_n (pc := 134) C 0 rfl dX8_soundNeighbours_134 rfl ?_
      refine g_iload (pc := 135) C 3 rfl dX8_soundNeighbours_135 ?_
      refine g_callI (pc := 137) (rest := [.int xs0]) (g_runV C mv_RX8_200 (fun x1 hx1 => m_X8_isSound hx1) so_RX8 rfl (by decide) rfl rfl (Nat.le_of_ble_eq_true rfl) dX8_soundNeighbours_137) (fun r20 => ?_)
      refine g_if_eq (pc := 140) (tgt := 147) C dX8_soundNeighbours_140 (by decide) (fun hc21 => ?_) (fun hc21 => ?_)
      · refine g_lv (lv' := []) [] rfl ?_
        exact j_X8_soundNeighbours_147 C h xs0
      · refine g_iconst (pc := 143) (v := 1) C dX8_soundNeighbours_143 kc_1 ?_
        refine g_goto (pc := 144) (tgt := 148) C dX8_soundNeighbours_144 (by decide) ?_
        refine g_lv (lv' := []) [] rfl ?_
        exact j_X8_soundNeighbours_148 C h (1 : Int32) xs0
def f_X8_soundNeighbours_120 (h : TT)   (x1 : Int32) (x5 : Int32) (x6 : Int32) : Option Int32 := f_X8_soundNeighbours_121 h x1 x5 x6 (0 : Int32)
set_option maxRecDepth 20000 in
theorem j_X8_soundNeighbours_120 {p : Program} {l : Launch} {e : Env} {R : Room} {s : State} {m : MethodId} {args : Array Value} {below : List Frame} {meth : Method} {c : Code} {w : WK} (C : CX p R s m args meth c w RX8 cX8_soundNeighbours 7 (some .int) 4 85) (h : TT)    (x1 : Int32) (x5 : Int32) (x6 : Int32)  : GO p l e R s m args below meth c w 7 (fI h) (f_X8_soundNeighbours_120 h x1 x5 x6) 120 [(0, .ref (w.2.1 (147))), (1, .int x1), (5, .int x5), (6, .int x6)] [] h := by
  unfold f_X8_soundNeighbours_120
  refine g_iconst (pc := 120) (v := 0) C dX8_soundNeighbours_120 kc_0 ?_
  exact j_X8_soundNeighbours_121 C h x1 x5 x6 (0 : Int32)
def f_X8_soundNeighbours (h : TT) (x1 : Int32) : Option Int32 := (f_X8_courseOf h x1).bind fun r1 => (f_X8_kindOf h r1).bind fun r2 => (if r2 = (2 : Int32) then (if x1 ≤ 0 then f_X8_soundNeighbours_33 h x1 else (f_X8_isSound h (x1 - (1 : Int32))).bind fun r9 => (if r9 = 0 then f_X8_soundNeighbours_33 h x1 else f_X8_soundNeighbours_34 h x1 (1 : Int32))) else (f_X8_start h r1).bind fun r11 => (f_X8_size h r1).bind fun r12 => if r12 = 0 then none else nm (r11 + (((x1 - r11) + (1 : Int32)) - ((x1 - r11) + (1 : Int32)) / r12 * r12)) fun y14 => if r12 = 0 then none else nm (r11 + ((((x1 - r11) + r12) - (1 : Int32)) - (((x1 - r11) + r12) - (1 : Int32)) / r12 * r12)) fun y16 => (if y14 = x1 then f_X8_soundNeighbours_120 h x1 y14 y16 else (f_X8_isSound h y14).bind fun r22 => (if r22 = 0 then f_X8_soundNeighbours_120 h x1 y14 y16 else f_X8_soundNeighbours_121 h x1 y14 y16 (1 : Int32))))
set_option maxRecDepth 20000 in
theorem m_X8_soundNeighbours {l : Launch} {w : WK} {h : TT} {x1 : Int32} {x : Int32} (hx : f_X8_soundNeighbours h x1 = some x)  : Met l yX8_soundNeighbours (Cond.code yX8_soundNeighbours cX8_soundNeighbours 7 (some .int) :: wsG) { frames := 4, cells := 0, slots := 0, locals := 85 } (PG w [.ref (w.2.1 (147)), .int x1] h) (QG w ((fI h) x)) 0 0 (AA w) := by
  refine m_entry (own := RX8) (f := (fI h)) hx (by decide) rfl (Nat.le_of_ble_eq_true rfl) (fun p e s m args below meth c C => ?_)
  show GO p l e _ s m args below meth c w 7 (fI h) (f_X8_soundNeighbours h x1) 0 [(0, .ref (w.2.1 (147))), (1, .int x1)] [] h
  unfold f_X8_soundNeighbours
  refine g_aload_n (pc := 0) C 0 rfl dX8_soundNeighbours_0 rfl ?_
  refine g_iload_n (pc := 1) C 1 rfl dX8_soundNeighbours_1 rfl ?_
  refine g_callI (pc := 2) (rest := []) (g_runV C mv_RX8_191 (fun x1 hx1 => m_X8_courseOf hx1) so_RX8 rfl (by decide) rfl rfl (Nat.le_of_ble_eq_true rfl) dX8_soundNeighbours_2) (fun r1 => ?_)
  refine g_istore_n (pc := 5) C dX8_soundNeighbours_5 rfl (by decide) (lv' := [(2, .int r1), (0, .ref (w.2.1 (147))), (1, .int x1)]) rfl ?_
  refine g_aload_n (pc := 6) C 1 rfl dX8_soundNeighbours_6 rfl ?_
  refine g_iload_n (pc := 7) C 0 rfl dX8_soundNeighbours_7 rfl ?_
  refine g_callI (pc := 8) (rest := []) (g_runV C mv_RX8_197 (fun x1 hx1 => m_X8_kindOf hx1) so_RX8 rfl (by decide) rfl rfl (Nat.le_of_ble_eq_true rfl) dX8_soundNeighbours_8) (fun r2 => ?_)
  refine g_iconst (pc := 11) (v := 2) C dX8_soundNeighbours_11 kc_2 ?_
  refine g_icmp_ne (pc := 12) (tgt := 61) C dX8_soundNeighbours_12 (by decide) (fun hc3 => ?_) (fun hc3 => ?_)
  · refine g_iload_n (pc := 15) C 2 rfl dX8_soundNeighbours_15 rfl ?_
    refine g_if_le (pc := 16) (tgt := 33) C dX8_soundNeighbours_16 (by decide) (fun hc4 => ?_) (fun hc4 => ?_)
    · refine g_lv (lv' := [(0, .ref (w.2.1 (147))), (1, .int x1)]) [1, 2] rfl ?_
      exact j_X8_soundNeighbours_33 C h x1
    · refine g_aload_n (pc := 19) C 1 rfl dX8_soundNeighbours_19 rfl ?_
      refine g_iload_n (pc := 20) C 2 rfl dX8_soundNeighbours_20 rfl ?_
      refine g_iconst (pc := 21) (v := 1) C dX8_soundNeighbours_21 kc_1 ?_
      refine g_isub (pc := 22) C dX8_soundNeighbours_22 ?_
      refine g_callI (pc := 23) (rest := []) (g_runV C mv_RX8_200 (fun x1 hx1 => m_X8_isSound hx1) so_RX8 rfl (by decide) rfl rfl (Nat.le_of_ble_eq_true rfl) dX8_soundNeighbours_23) (fun r9 => ?_)
      refine g_if_eq (pc := 26) (tgt := 33) C dX8_soundNeighbours_26 (by decide) (fun hc10 => ?_) (fun hc10 => ?_)
      · refine g_lv (lv' := [(0, .ref (w.2.1 (147))), (1, .int x1)]) [1, 2] rfl ?_
        exact j_X8_soundNeighbours_33 C h x1
      · refine g_iconst (pc := 29) (v := 1) C dX8_soundNeighbours_29 kc_1 ?_
        refine g_goto (pc := 30) (tgt := 34) C dX8_soundNeighbours_30 (by decide) ?_
        refine g_lv (lv' := [(0, .ref (w.2.1 (147))), (1, .int x1)]) [1, 2] rfl ?_
        exact j_X8_soundNeighbours_34 C h x1 (1 : Int32)
  · refine g_aload_n (pc := 61) C 1 rfl dX8_soundNeighbours_61 rfl ?_
    refine g_iload_n (pc := 62) C 0 rfl dX8_soundNeighbours_62 rfl ?_
    refine g_callI (pc := 63) (rest := []) (g_runV C mv_RX8_160 (fun x1 hx1 => m_X8_start hx1) so_RX8 rfl (by decide) rfl rfl (Nat.le_of_ble_eq_true rfl) dX8_soundNeighbours_63) (fun r11 => ?_)
    refine g_istore_n (pc := 66) C dX8_soundNeighbours_66 rfl (by decide) (lv' := [(3, .int r11), (2, .int r1), (0, .ref (w.2.1 (147))), (1, .int x1)]) rfl ?_
    refine g_aload_n (pc := 67) C 2 rfl dX8_soundNeighbours_67 rfl ?_
    refine g_iload_n (pc := 68) C 1 rfl dX8_soundNeighbours_68 rfl ?_
    refine g_callI (pc := 69) (rest := []) (g_runV C mv_RX8_157 (fun x1 hx1 => m_X8_size hx1) so_RX8 rfl (by decide) rfl rfl (Nat.le_of_ble_eq_true rfl) dX8_soundNeighbours_69) (fun r12 => ?_)
    refine g_istore (pc := 72) C dX8_soundNeighbours_72 (by decide) (lv' := [(4, .int r12), (3, .int r11), (2, .int r1), (0, .ref (w.2.1 (147))), (1, .int x1)]) rfl ?_
    refine g_iload_n (pc := 74) C 1 rfl dX8_soundNeighbours_74 rfl ?_
    refine g_iload_n (pc := 75) C 4 rfl dX8_soundNeighbours_75 rfl ?_
    refine g_iload_n (pc := 76) C 1 rfl dX8_soundNeighbours_76 rfl ?_
    refine g_isub (pc := 77) C dX8_soundNeighbours_77 ?_
    refine g_iconst (pc := 78) (v := 1) C dX8_soundNeighbours_78 kc_1 ?_
    refine g_iadd (pc := 79) C dX8_soundNeighbours_79 ?_
    refine g_iload (pc := 80) C 0 rfl dX8_soundNeighbours_80 ?_
    refine g_guardp (fun hz13 => ?_)
    refine g_irem (pc := 82) C dX8_soundNeighbours_82 hz13 ?_
    refine g_iadd (pc := 83) C dX8_soundNeighbours_83 ?_
    refine g_nmi (fun y14 => ?_)
    refine g_istore (pc := 84) C dX8_soundNeighbours_84 (by decide) (lv' := [(5, .int y14), (4, .int r12), (3, .int r11), (2, .int r1), (0, .ref (w.2.1 (147))), (1, .int x1)]) rfl ?_
    refine g_iload_n (pc := 86) C 2 rfl dX8_soundNeighbours_86 rfl ?_
    refine g_iload_n (pc := 87) C 5 rfl dX8_soundNeighbours_87 rfl ?_
    refine g_iload_n (pc := 88) C 2 rfl dX8_soundNeighbours_88 rfl ?_
    refine g_isub (pc := 89) C dX8_soundNeighbours_89 ?_
    refine g_iload (pc := 90) C 1 rfl dX8_soundNeighbours_90 ?_
    refine g_iadd (pc := 92) C dX8_soundNeighbours_92 ?_
    refine g_iconst (pc := 93) (v := 1) C dX8_soundNeighbours_93 kc_1 ?_
    refine g_isub (pc := 94) C dX8_soundNeighbours_94 ?_
    refine g_iload (pc := 95) C 1 rfl dX8_soundNeighbours_95 ?_
    refine g_guardp (fun hz15 => ?_)
    refine g_irem (pc := 97) C dX8_soundNeighbours_97 hz15 ?_
    refine g_iadd (pc := 98) C dX8_soundNeighbours_98 ?_
    refine g_nmi (fun y16 => ?_)
    refine g_istore (pc := 99) C dX8_soundNeighbours_99 (by decide) (lv' := [(6, .int y16), (5, .int y14), (4, .int r12), (3, .int r11), (2, .int r1), (0, .ref (w.2.1 (147))), (1, .int x1)]) rfl ?_
    refine g_iload (pc := 101) C 1 rfl dX8_soundNeighbours_101 ?_
    refine g_iload_n (pc := 103) C 6 rfl dX8_soundNeighbours_103 rfl ?_
    refine g_icmp_eq (pc := 104) (tgt := 120) C dX8_soundNeighbours_104 (by decide) (fun hc17 => ?_) (fun hc17 => ?_)
    · refine g_lv (lv' := [(0, .ref (w.2.1 (147))), (1, .int x1), (5, .int y14), (6, .int y16)]) [5, 6, 1, 0] rfl ?_
      exact j_X8_soundNeighbours_120 C h x1 y14 y16
    · refine g_aload_n (pc := 107) C 5 rfl dX8_soundNeighbours_107 rfl ?_
      refine g_iload (pc := 108) C 1 rfl dX8_soundNeighbours_108 ?_
      refine g_callI (pc := 110) (rest := []) (g_runV C mv_RX8_200 (fun x1 hx1 => m_X8_isSound hx1) so_RX8 rfl (by decide) rfl rfl (Nat.le_of_ble_eq_true rfl) dX8_soundNeighbours_110) (fun r22 => ?_)
      refine g_if_eq (pc := 113) (tgt := 120) C dX8_soundNeighbours_113 (by decide) (fun hc23 => ?_) (fun hc23 => ?_)
      · refine g_lv (lv' := [(0, .ref (w.2.1 (147))), (1, .int x1), (5, .int y14), (6, .int y16)]) [5, 6, 1, 0] rfl ?_
        exact j_X8_soundNeighbours_120 C h x1 y14 y16
      · refine g_iconst (pc := 116) (v := 1) C dX8_soundNeighbours_116 kc_1 ?_
        refine g_goto (pc := 117) (tgt := 121) C dX8_soundNeighbours_117 (by decide) ?_
        refine g_lv (lv' := [(0, .ref (w.2.1 (147))), (1, .int x1), (5, .int y14), (6, .int y16)]) [5, 6, 1, 0] rfl ?_
        exact j_X8_soundNeighbours_121 C h x1 y14 y16 (1 : Int32)
/-- SnowHouseModel.isClosed(I)Z -/
def f_X8_isClosed_67 (h : TT)  (k15 : Int32 → Int32 → Int32 → Int32 → Option Int32) (x1 : Int32) (x2 : Int32) (x4 : Int32) (xs0 : Int32) : Option Int32 := k15 x1 x2 xs0 (x4 + (1 : Int32))
set_option maxRecDepth 20000 in
theorem j_X8_isClosed_67 {p : Program} {l : Launch} {e : Env} {R : Room} {s : State} {m : MethodId} {args : Array Value} {below : List Frame} {meth : Method} {c : Code} {w : WK} (C : CX p R s m args meth c w RX8 cX8_isClosed 5 (some .boolean) 3 65) (h : TT)   {k15 : Int32 → Int32 → Int32 → Int32 → Option Int32} (hk15 : ∀ (x1 : Int32) (x2 : Int32) (x3 : Int32) (x4 : Int32) , GO p l e R s m args below meth c w 5 (fI h) (k15 x1 x2 x3 x4) 15 [(0, .ref (w.2.1 (147))), (1, .int x1), (2, .int x2), (3, .int x3), (4, .int x4)] [] h) (x1 : Int32) (x2 : Int32) (x4 : Int32) (xs0 : Int32)  : GO p l e R s m args below meth c w 5 (fI h) (f_X8_isClosed_67 h k15 x1 x2 x4 xs0) 67 [(0, .ref (w.2.1 (147))), (1, .int x1), (2, .int x2), (4, .int x4)] [.int xs0] h := by
  unfold f_X8_isClosed_67
  refine g_istore_n (pc := 67) C dX8_isClosed_67 rfl (by decide) (lv' := [(3, .int xs0), (0, .ref (w.2.1 (147))), (1, .int x1), (2, .int x2), (4, .int x4)]) rfl ?_
  refine g_iinc (pc := 68) C 4 rfl dX8_isClosed_68 (ki_1 _) (by decide) (lv' := [(4, .int (x4 + (1 : Int32))), (3, .int xs0), (0, .ref (w.2.1 (147))), (1, .int x1), (2, .int x2)]) rfl ?_
  refine g_goto (pc := 71) (tgt := 15) C dX8_isClosed_71 (by decide) ?_
  refine g_lv (lv' := [(0, .ref (w.2.1 (147))), (1, .int x1), (2, .int x2), (3, .int xs0), (4, .int (x4 + (1 : Int32)))]) [2, 3, 4, 1, 0] rfl ?_
  exact hk15 x1 x2 xs0 (x4 + (1 : Int32))
def f_X8_isClosed_66 (h : TT)  (k15 : Int32 → Int32 → Int32 → Int32 → Option Int32) (x1 : Int32) (x2 : Int32) (x4 : Int32) : Option Int32 := f_X8_isClosed_67 h k15 x1 x2 x4 (0 : Int32)
set_option maxRecDepth 20000 in
theorem j_X8_isClosed_66 {p : Program} {l : Launch} {e : Env} {R : Room} {s : State} {m : MethodId} {args : Array Value} {below : List Frame} {meth : Method} {c : Code} {w : WK} (C : CX p R s m args meth c w RX8 cX8_isClosed 5 (some .boolean) 3 65) (h : TT)   {k15 : Int32 → Int32 → Int32 → Int32 → Option Int32} (hk15 : ∀ (x1 : Int32) (x2 : Int32) (x3 : Int32) (x4 : Int32) , GO p l e R s m args below meth c w 5 (fI h) (k15 x1 x2 x3 x4) 15 [(0, .ref (w.2.1 (147))), (1, .int x1), (2, .int x2), (3, .int x3), (4, .int x4)] [] h) (x1 : Int32) (x2 : Int32) (x4 : Int32)  : GO p l e R s m args below meth c w 5 (fI h) (f_X8_isClosed_66 h k15 x1 x2 x4) 66 [(0, .ref (w.2.1 (147))), (1, .int x1), (2, .int x2), (4, .int x4)] [] h := by
  unfold f_X8_isClosed_66
  refine g_iconst (pc := 66) (v := 0) C dX8_isClosed_66 kc_0 ?_
  exact j_X8_isClosed_67 C h hk15 x1 x2 x4 (0 : Int32)
def f_X8_isClosed_62 (h : TT)  (k15 : Int32 → Int32 → Int32 → Int32 → Option Int32) (x1 : Int32) (x2 : Int32) (x4 : Int32) : Option Int32 := f_X8_isClosed_67 h k15 x1 x2 x4 (1 : Int32)
set_option maxRecDepth 20000 in
theorem j_X8_isClosed_62 {p : Program} {l : Launch} {e : Env} {R : Room} {s : State} {m : MethodId} {args : Array Value} {below : List Frame} {meth : Method} {c : Code} {w : WK} (C : CX p R s m args meth c w RX8 cX8_isClosed 5 (some .boolean) 3 65) (h : TT)   {k15 : Int32 → Int32 → Int32 → Int32 → Option Int32} (hk15 : ∀ (x1 : Int32) (x2 : Int32) (x3 : Int32) (x4 : Int32) , GO p l e R s m args below meth c w 5 (fI h) (k15 x1 x2 x3 x4) 15 [(0, .ref (w.2.1 (147))), (1, .int x1), (2, .int x2), (3, .int x3), (4, .int x4)] [] h) (x1 : Int32) (x2 : Int32) (x4 : Int32)  : GO p l e R s m args below meth c w 5 (fI h) (f_X8_isClosed_62 h k15 x1 x2 x4) 62 [(0, .ref (w.2.1 (147))), (1, .int x1), (2, .int x2), (4, .int x4)] [] h := by
  unfold f_X8_isClosed_62
  refine g_iconst (pc := 62) (v := 1) C dX8_isClosed_62 kc_1 ?_
  refine g_goto (pc := 63) (tgt := 67) C dX8_isClosed_63 (by decide) ?_
  exact j_X8_isClosed_67 C h hk15 x1 x2 x4 (1 : Int32)
def f_X8_isClosed_15 (h : TT)   : Nat → Int32 → Int32 → Int32 → Int32 → Option Int32
  | 0, _, _, _, _ => none
  | n + 1, x1, x2, x3, x4 => (f_X8_start h x2).bind fun r3 => (f_X8_size h x2).bind fun r4 => (if (r3 + r4) ≤ x4 then if isZ x3 = true then some x3 else none else (if x3 = 0 then f_X8_isClosed_66 h (f_X8_isClosed_15 h n) x1 x2 x4 else (if x4 = x1 then (f_X8_isLaid h x4).bind fun r9 => (if r9 = 0 then f_X8_isClosed_66 h (f_X8_isClosed_15 h n) x1 x2 x4 else f_X8_isClosed_62 h (f_X8_isClosed_15 h n) x1 x2 x4) else (f_X8_isSound h x4).bind fun r11 => (if r11 = 0 then f_X8_isClosed_66 h (f_X8_isClosed_15 h n) x1 x2 x4 else f_X8_isClosed_62 h (f_X8_isClosed_15 h n) x1 x2 x4))))
set_option maxRecDepth 20000 in
theorem j_X8_isClosed_15 {p : Program} {l : Launch} {e : Env} {R : Room} {s : State} {m : MethodId} {args : Array Value} {below : List Frame} {meth : Method} {c : Code} {w : WK} (C : CX p R s m args meth c w RX8 cX8_isClosed 5 (some .boolean) 3 65) (h : TT)    : ∀ (n : Nat) (x1 : Int32) (x2 : Int32) (x3 : Int32) (x4 : Int32), GO p l e R s m args below meth c w 5 (fI h) (f_X8_isClosed_15 h n x1 x2 x3 x4) 15 [(0, .ref (w.2.1 (147))), (1, .int x1), (2, .int x2), (3, .int x3), (4, .int x4)] [] h := by
  intro n
  induction n with
  | zero =>
    intro x1 x2 x3 x4
    exact g_none
  | succ n ih =>
    intro x1 x2 x3 x4
    rw [f_X8_isClosed_15]
    refine g_iload (pc := 15) C 4 rfl dX8_isClosed_15 ?_
    refine g_aload_n (pc := 17) C 0 rfl dX8_isClosed_17 rfl ?_
    refine g_iload_n (pc := 18) C 2 rfl dX8_isClosed_18 rfl ?_
    refine g_callI (pc := 19) (rest := [.int x4]) (g_runV C mv_RX8_160 (fun x1 hx1 => m_X8_start hx1) so_RX8 rfl (by decide) rfl rfl (Nat.le_of_ble_eq_true rfl) dX8_isClosed_19) (fun r3 => ?_)
    refine g_aload_n (pc := 22) C 0 rfl dX8_isClosed_22 rfl ?_
    refine g_iload_n (pc := 23) C 2 rfl dX8_isClosed_23 rfl ?_
    refine g_callI (pc := 24) (rest := [.int r3, .int x4]) (g_runV C mv_RX8_157 (fun x1 hx1 => m_X8_size hx1) so_RX8 rfl (by decide) rfl rfl (Nat.le_of_ble_eq_true rfl) dX8_isClosed_24) (fun r4 => ?_)
    refine g_iadd (pc := 27) C dX8_isClosed_27 ?_
    refine g_icmp_ge (pc := 28) (tgt := 74) C dX8_isClosed_28 (by decide) (fun hc5 => ?_) (fun hc5 => ?_)
    · refine g_iload_n (pc := 74) C 3 rfl dX8_isClosed_74 rfl ?_
      refine g_guard (fun hz6 => ?_)
      exact g_zret C dX8_isClosed_75 hz6
    · refine g_iload_n (pc := 31) C 3 rfl dX8_isClosed_31 rfl ?_
      refine g_if_eq (pc := 32) (tgt := 66) C dX8_isClosed_32 (by decide) (fun hc7 => ?_) (fun hc7 => ?_)
      · refine g_lv (lv' := [(0, .ref (w.2.1 (147))), (1, .int x1), (2, .int x2), (4, .int x4)]) [0, 1, 2, 4] rfl ?_
        exact j_X8_isClosed_66 C h ih x1 x2 x4
      · refine g_iload (pc := 35) C 4 rfl dX8_isClosed_35 ?_
        refine g_iload_n (pc := 37) C 1 rfl dX8_isClosed_37 rfl ?_
        refine g_icmp_ne (pc := 38) (tgt := 53) C dX8_isClosed_38 (by decide) (fun hc8 => ?_) (fun hc8 => ?_)
        · refine g_aload_n (pc := 41) C 0 rfl dX8_isClosed_41 rfl ?_
          refine g_iload (pc := 42) C 4 rfl dX8_isClosed_42 ?_
          refine g_callI (pc := 44) (rest := []) (g_runV C mv_RX8_182 (fun x1 hx1 => m_X8_isLaid hx1) so_RX8 rfl (by decide) rfl rfl (Nat.le_of_ble_eq_true rfl) dX8_isClosed_44) (fun r9 => ?_)
          refine g_if_eq (pc := 47) (tgt := 66) C dX8_isClosed_47 (by decide) (fun hc10 => ?_) (fun hc10 => ?_)
          · refine g_lv (lv' := [(0, .ref (w.2.1 (147))), (1, .int x1), (2, .int x2), (4, .int x4)]) [0, 1, 2, 4] rfl ?_
            exact j_X8_isClosed_66 C h ih x1 x2 x4
          · refine g_goto (pc := 50) (tgt := 62) C dX8_isClosed_50 (by decide) ?_
            refine g_lv (lv' := [(0, .ref (w.2.1 (147))), (1, .int x1), (2, .int x2), (4, .int x4)]) [0, 1, 2, 4] rfl ?_
            exact j_X8_isClosed_62 C h ih x1 x2 x4
        · refine g_aload_n (pc := 53) C 0 rfl dX8_isClosed_53 rfl ?_
          refine g_iload (pc := 54) C 4 rfl dX8_isClosed_54 ?_
          refine g_callI (pc := 56) (rest := []) (g_runV C mv_RX8_200 (fun x1 hx1 => m_X8_isSound hx1) so_RX8 rfl (by decide) rfl rfl (Nat.le_of_ble_eq_true rfl) dX8_isClosed_56) (fun r11 => ?_)
          refine g_if_eq (pc := 59) (tgt := 66) C dX8_isClosed_59 (by decide) (fun hc12 => ?_) (fun hc12 => ?_)
          · refine g_lv (lv' := [(0, .ref (w.2.1 (147))), (1, .int x1), (2, .int x2), (4, .int x4)]) [0, 1, 2, 4] rfl ?_
            exact j_X8_isClosed_66 C h ih x1 x2 x4
          · refine g_lv (lv' := [(0, .ref (w.2.1 (147))), (1, .int x1), (2, .int x2), (4, .int x4)]) [0, 1, 2, 4] rfl ?_
            exact j_X8_isClosed_62 C h ih x1 x2 x4
def f_X8_isClosed (h : TT) (x1 : Int32) : Option Int32 := (f_X8_courseOf h x1).bind fun r1 => (f_X8_start h r1).bind fun r2 => f_X8_isClosed_15 h KF x1 r1 (1 : Int32) r2
set_option maxRecDepth 20000 in
theorem m_X8_isClosed {l : Launch} {w : WK} {h : TT} {x1 : Int32} {x : Int32} (hx : f_X8_isClosed h x1 = some x)  : Met l yX8_isClosed (Cond.code yX8_isClosed cX8_isClosed 5 (some .boolean) :: wsG) { frames := 3, cells := 0, slots := 0, locals := 65 } (PG w [.ref (w.2.1 (147)), .int x1] h) (QG w ((fI h) x)) 0 0 (AA w) := by
  refine m_entry (own := RX8) (f := (fI h)) hx (by decide) rfl (Nat.le_of_ble_eq_true rfl) (fun p e s m args below meth c C => ?_)
  show GO p l e _ s m args below meth c w 5 (fI h) (f_X8_isClosed h x1) 0 [(0, .ref (w.2.1 (147))), (1, .int x1)] [] h
  unfold f_X8_isClosed
  refine g_aload_n (pc := 0) C 0 rfl dX8_isClosed_0 rfl ?_
  refine g_iload_n (pc := 1) C 1 rfl dX8_isClosed_1 rfl ?_
  refine g_callI (pc := 2) (rest := []) (g_runV C mv_RX8_191 (fun x1 hx1 => m_X8_courseOf hx1) so_RX8 rfl (by decide) rfl rfl (Nat.le_of_ble_eq_true rfl) dX8_isClosed_2) (fun r1 => ?_)
  refine g_istore_n (pc := 5) C dX8_isClosed_5 rfl (by decide) (lv' := [(2, .int r1), (0, .ref (w.2.1 (147))), (1, .int x1)]) rfl ?_
  refine g_iconst (pc := 6) (v := 1) C dX8_isClosed_6 kc_1 ?_
  refine g_istore_n (pc := 7) C dX8_isClosed_7 rfl (by decide) (lv' := [(3, .int (1 : Int32)), (2, .int r1), (0, .ref (w.2.1 (147))), (1, .int x1)]) rfl ?_
  refine g_aload_n (pc := 8) C 2 rfl dX8_isClosed_8 rfl ?_
  refine g_iload_n (pc := 9) C 1 rfl dX8_isClosed_9 rfl ?_
  refine g_callI (pc := 10) (rest := []) (g_runV C mv_RX8_160 (fun x1 hx1 => m_X8_start hx1) so_RX8 rfl (by decide) rfl rfl (Nat.le_of_ble_eq_true rfl) dX8_isClosed_10) (fun r2 => ?_)
  refine g_istore (pc := 13) C dX8_isClosed_13 (by decide) (lv' := [(4, .int r2), (3, .int (1 : Int32)), (2, .int r1), (0, .ref (w.2.1 (147))), (1, .int x1)]) rfl ?_
  refine g_lv (lv' := [(0, .ref (w.2.1 (147))), (1, .int x1), (2, .int r1), (3, .int (1 : Int32)), (4, .int r2)]) [3, 4, 2, 1, 0] rfl ?_
  exact j_X8_isClosed_15 C h KF x1 r1 (1 : Int32) r2
/-- SnowHouseModel.holdOf(I)I -/
def f_X8_holdOf_91 (h : TT)   (xs0 : Int32) (xs1 : Int32) : Option Int32 := some (xs1 + xs0)
set_option maxRecDepth 20000 in
theorem j_X8_holdOf_91 {p : Program} {l : Launch} {e : Env} {R : Room} {s : State} {m : MethodId} {args : Array Value} {below : List Frame} {meth : Method} {c : Code} {w : WK} (C : CX p R s m args meth c w RX8 cX8_holdOf 4 (some .int) 5 111) (h : TT)    (xs0 : Int32) (xs1 : Int32)  : GO p l e R s m args below meth c w 4 (fI h) (f_X8_holdOf_91 h xs0 xs1) 91 [] [.int xs0, .int xs1] h := by
  unfold f_X8_holdOf_91
  refine g_iadd (pc := 91) C dX8_holdOf_91 ?_
  exact g_iret C dX8_holdOf_92
def f_X8_holdOf_90 (h : TT)   (xs0 : Int32) : Option Int32 := f_X8_holdOf_91 h (0 : Int32) xs0
set_option maxRecDepth 20000 in
theorem j_X8_holdOf_90 {p : Program} {l : Launch} {e : Env} {R : Room} {s : State} {m : MethodId} {args : Array Value} {below : List Frame} {meth : Method} {c : Code} {w : WK} (C : CX p R s m args meth c w RX8 cX8_holdOf 4 (some .int) 5 111) (h : TT)    (xs0 : Int32)  : GO p l e R s m args below meth c w 4 (fI h) (f_X8_holdOf_90 h xs0) 90 [] [.int xs0] h := by
  unfold f_X8_holdOf_90
  refine g_iconst (pc := 90) (v := 0) C dX8_holdOf_90 kc_0 ?_
  exact j_X8_holdOf_91 C h (0 : Int32) xs0
def f_X8_holdOf_64 (h : TT)   (x1 : Int32) (xs0 : Int32) (xs1 : Int32) : Option Int32 := (f_X8_v h (5 : Int32)).bind fun r11 => (if r11 = (2 : Int32) then (f_X8_v h (31 : Int32)).bind fun r13 => (if x1 = (r13 - (1 : Int32)) then f_X8_holdOf_90 h (xs1 + xs0) else f_X8_holdOf_91 h (1 : Int32) (xs1 + xs0)) else f_X8_holdOf_90 h (xs1 + xs0))
set_option maxRecDepth 20000 in
theorem j_X8_holdOf_64 {p : Program} {l : Launch} {e : Env} {R : Room} {s : State} {m : MethodId} {args : Array Value} {below : List Frame} {meth : Method} {c : Code} {w : WK} (C : CX p R s m args meth c w RX8 cX8_holdOf 4 (some .int) 5 111) (h : TT)    (x1 : Int32) (xs0 : Int32) (xs1 : Int32)  : GO p l e R s m args below meth c w 4 (fI h) (f_X8_holdOf_64 h x1 xs0 xs1) 64 [(0, .ref (w.2.1 (147))), (1, .int x1)] [.int xs0, .int xs1] h := by
  unfold f_X8_holdOf_64
  refine g_iadd (pc := 64) C dX8_holdOf_64 ?_
  refine g_aload_n (pc := 65) C 0 rfl dX8_holdOf_65 rfl ?_
  refine g_iconst (pc := 66) (v := 5) C dX8_holdOf_66 kc_5 ?_
  refine g_callI (pc := 67) (rest := [.int (xs1 + xs0)]) (g_runV C mv_RX8_154 (fun x1 hx1 => m_X8_v hx1) so_RX8 rfl (by decide) rfl rfl (Nat.le_of_ble_eq_true rfl) dX8_holdOf_67) (fun r11 => ?_)
  refine g_iconst (pc := 70) (v := 2) C dX8_holdOf_70 kc_2 ?_
  refine g_icmp_ne (pc := 71) (tgt := 90) C dX8_holdOf_71 (by decide) (fun hc12 => ?_) (fun hc12 => ?_)
  · refine g_iload_n (pc := 74) C 1 rfl dX8_holdOf_74 rfl ?_
    refine g_aload_n (pc := 75) C 0 rfl dX8_holdOf_75 rfl ?_
    refine g_bipush (pc := 76) (v := 31) C dX8_holdOf_76 kb_31 ?_
    refine g_callI (pc := 78) (rest := [.int x1, .int (xs1 + xs0)]) (g_runV C mv_RX8_154 (fun x1 hx1 => m_X8_v hx1) so_RX8 rfl (by decide) rfl rfl (Nat.le_of_ble_eq_true rfl) dX8_holdOf_78) (fun r13 => ?_)
    refine g_iconst (pc := 81) (v := 1) C dX8_holdOf_81 kc_1 ?_
    refine g_isub (pc := 82) C dX8_holdOf_82 ?_
    refine g_icmp_eq (pc := 83) (tgt := 90) C dX8_holdOf_83 (by decide) (fun hc14 => ?_) (fun hc14 => ?_)
    · refine g_lv (lv' := []) [] rfl ?_
      exact j_X8_holdOf_90 C h (xs1 + xs0)
    · refine g_iconst (pc := 86) (v := 1) C dX8_holdOf_86 kc_1 ?_
      refine g_goto (pc := 87) (tgt := 91) C dX8_holdOf_87 (by decide) ?_
      refine g_lv (lv' := []) [] rfl ?_
      exact j_X8_holdOf_91 C h (1 : Int32) (xs1 + xs0)
  · refine g_lv (lv' := []) [] rfl ?_
    exact j_X8_holdOf_90 C h (xs1 + xs0)
def f_X8_holdOf (h : TT) (x1 : Int32) : Option Int32 := (f_X8_v h (4 : Int32)).bind fun r1 => (f_X8_v h (31 : Int32)).bind fun r2 => nm (r1 * ((r2 - (1 : Int32)) - x1)) fun y3 => (f_X8_v h (0 : Int32)).bind fun r4 => (f_X8_v h (2 : Int32)).bind fun r5 => (f_X8_lesser h r4 ((y3 * r5) / (20 : Int32))).bind fun r6 => (f_X8_v h (1 : Int32)).bind fun r7 => (f_X8_soundNeighbours h x1).bind fun r8 => (f_X8_isClosed h x1).bind fun r9 => (if r9 = 0 then f_X8_holdOf_64 h x1 (0 : Int32) ((r7 + r6) + ((2 : Int32) * r8)) else f_X8_holdOf_64 h x1 (3 : Int32) ((r7 + r6) + ((2 : Int32) * r8)))
set_option maxRecDepth 20000 in
theorem m_X8_holdOf {l : Launch} {w : WK} {h : TT} {x1 : Int32} {x : Int32} (hx : f_X8_holdOf h x1 = some x)  : Met l yX8_holdOf (Cond.code yX8_holdOf cX8_holdOf 4 (some .int) :: wsG) { frames := 5, cells := 0, slots := 0, locals := 111 } (PG w [.ref (w.2.1 (147)), .int x1] h) (QG w ((fI h) x)) 0 0 (AA w) := by
  refine m_entry (own := RX8) (f := (fI h)) hx (by decide) rfl (Nat.le_of_ble_eq_true rfl) (fun p e s m args below meth c C => ?_)
  show GO p l e _ s m args below meth c w 4 (fI h) (f_X8_holdOf h x1) 0 [(0, .ref (w.2.1 (147))), (1, .int x1)] [] h
  unfold f_X8_holdOf
  refine g_aload_n (pc := 0) C 0 rfl dX8_holdOf_0 rfl ?_
  refine g_iconst (pc := 1) (v := 4) C dX8_holdOf_1 kc_4 ?_
  refine g_callI (pc := 2) (rest := []) (g_runV C mv_RX8_154 (fun x1 hx1 => m_X8_v hx1) so_RX8 rfl (by decide) rfl rfl (Nat.le_of_ble_eq_true rfl) dX8_holdOf_2) (fun r1 => ?_)
  refine g_aload_n (pc := 5) C 0 rfl dX8_holdOf_5 rfl ?_
  refine g_bipush (pc := 6) (v := 31) C dX8_holdOf_6 kb_31 ?_
  refine g_callI (pc := 8) (rest := [.int r1]) (g_runV C mv_RX8_154 (fun x1 hx1 => m_X8_v hx1) so_RX8 rfl (by decide) rfl rfl (Nat.le_of_ble_eq_true rfl) dX8_holdOf_8) (fun r2 => ?_)
  refine g_iconst (pc := 11) (v := 1) C dX8_holdOf_11 kc_1 ?_
  refine g_isub (pc := 12) C dX8_holdOf_12 ?_
  refine g_iload_n (pc := 13) C 1 rfl dX8_holdOf_13 rfl ?_
  refine g_isub (pc := 14) C dX8_holdOf_14 ?_
  refine g_imul (pc := 15) C dX8_holdOf_15 ?_
  refine g_nmi (fun y3 => ?_)
  refine g_istore_n (pc := 16) C dX8_holdOf_16 rfl (by decide) (lv' := [(2, .int y3), (0, .ref (w.2.1 (147))), (1, .int x1)]) rfl ?_
  refine g_aload_n (pc := 17) C 1 rfl dX8_holdOf_17 rfl ?_
  refine g_iconst (pc := 18) (v := 0) C dX8_holdOf_18 kc_0 ?_
  refine g_callI (pc := 19) (rest := []) (g_runV C mv_RX8_154 (fun x1 hx1 => m_X8_v hx1) so_RX8 rfl (by decide) rfl rfl (Nat.le_of_ble_eq_true rfl) dX8_holdOf_19) (fun r4 => ?_)
  refine g_iload_n (pc := 22) C 0 rfl dX8_holdOf_22 rfl ?_
  refine g_aload_n (pc := 23) C 1 rfl dX8_holdOf_23 rfl ?_
  refine g_iconst (pc := 24) (v := 2) C dX8_holdOf_24 kc_2 ?_
  refine g_callI (pc := 25) (rest := [.int y3, .int r4]) (g_runV C mv_RX8_154 (fun x1 hx1 => m_X8_v hx1) so_RX8 rfl (by decide) rfl rfl (Nat.le_of_ble_eq_true rfl) dX8_holdOf_25) (fun r5 => ?_)
  refine g_imul (pc := 28) C dX8_holdOf_28 ?_
  refine g_bipush (pc := 29) (v := 20) C dX8_holdOf_29 kb_20 ?_
  refine g_idiv (pc := 31) C dX8_holdOf_31 (by decide) ?_
  refine g_callI (pc := 32) (rest := []) (g_runS C ms_RX8_203 (fun x1 hx1 => m_X8_lesser hx1) (by decide) rfl rfl (Nat.le_of_ble_eq_true rfl) dX8_holdOf_32) (fun r6 => ?_)
  refine g_istore_n (pc := 35) C dX8_holdOf_35 rfl (by decide) (lv' := [(3, .int r6), (2, .int y3), (0, .ref (w.2.1 (147))), (1, .int x1)]) rfl ?_
  refine g_aload_n (pc := 36) C 2 rfl dX8_holdOf_36 rfl ?_
  refine g_iconst (pc := 37) (v := 1) C dX8_holdOf_37 kc_1 ?_
  refine g_callI (pc := 38) (rest := []) (g_runV C mv_RX8_154 (fun x1 hx1 => m_X8_v hx1) so_RX8 rfl (by decide) rfl rfl (Nat.le_of_ble_eq_true rfl) dX8_holdOf_38) (fun r7 => ?_)
  refine g_iload_n (pc := 41) C 0 rfl dX8_holdOf_41 rfl ?_
  refine g_iadd (pc := 42) C dX8_holdOf_42 ?_
  refine g_iconst (pc := 43) (v := 2) C dX8_holdOf_43 kc_2 ?_
  refine g_aload_n (pc := 44) C 2 rfl dX8_holdOf_44 rfl ?_
  refine g_iload_n (pc := 45) C 3 rfl dX8_holdOf_45 rfl ?_
  refine g_callI (pc := 46) (rest := [.int (2 : Int32), .int (r7 + r6)]) (g_runV C mv_RX8_206 (fun x1 hx1 => m_X8_soundNeighbours hx1) so_RX8 rfl (by decide) rfl rfl (Nat.le_of_ble_eq_true rfl) dX8_holdOf_46) (fun r8 => ?_)
  refine g_imul (pc := 49) C dX8_holdOf_49 ?_
  refine g_iadd (pc := 50) C dX8_holdOf_50 ?_
  refine g_aload_n (pc := 51) C 2 rfl dX8_holdOf_51 rfl ?_
  refine g_iload_n (pc := 52) C 3 rfl dX8_holdOf_52 rfl ?_
  refine g_callI (pc := 53) (rest := [.int ((r7 + r6) + ((2 : Int32) * r8))]) (g_runV C mv_RX8_209 (fun x1 hx1 => m_X8_isClosed hx1) so_RX8 rfl (by decide) rfl rfl (Nat.le_of_ble_eq_true rfl) dX8_holdOf_53) (fun r9 => ?_)
  refine g_if_eq (pc := 56) (tgt := 63) C dX8_holdOf_56 (by decide) (fun hc10 => ?_) (fun hc10 => ?_)
  · refine g_iconst (pc := 63) (v := 0) C dX8_holdOf_63 kc_0 ?_
    refine g_lv (lv' := [(0, .ref (w.2.1 (147))), (1, .int x1)]) [2, 3] rfl ?_
    exact j_X8_holdOf_64 C h x1 (0 : Int32) ((r7 + r6) + ((2 : Int32) * r8))
  · refine g_iconst (pc := 59) (v := 3) C dX8_holdOf_59 kc_3 ?_
    refine g_goto (pc := 60) (tgt := 64) C dX8_holdOf_60 (by decide) ?_
    refine g_lv (lv' := [(0, .ref (w.2.1 (147))), (1, .int x1)]) [2, 3] rfl ?_
    exact j_X8_holdOf_64 C h x1 (3 : Int32) ((r7 + r6) + ((2 : Int32) * r8))
/-- SnowHouseModel.above(I)I -/
def f_X8_above_95 (h : TT)   (x3 : Int32) : Option Int32 := some x3
set_option maxRecDepth 20000 in
theorem j_X8_above_95 {p : Program} {l : Launch} {e : Env} {R : Room} {s : State} {m : MethodId} {args : Array Value} {below : List Frame} {meth : Method} {c : Code} {w : WK} (C : CX p R s m args meth c w RX8 cX8_above 5 (some .int) 5 110) (h : TT)    (x3 : Int32)  : GO p l e R s m args below meth c w 5 (fI h) (f_X8_above_95 h x3) 95 [(3, .int x3)] [] h := by
  unfold f_X8_above_95
  refine g_iload_n (pc := 95) C 0 rfl dX8_above_95 rfl ?_
  exact g_iret C dX8_above_96
def f_X8_above_87 (h : TT)  (k27 : Int32 → Int32 → Int32 → Int32 → Option Int32) (x1 : Int32) (x2 : Int32) (x4 : Int32) (xs0 : Int32) (xs1 : Int32) : Option Int32 := nm (xs1 + xs0) fun y11 => k27 x1 x2 y11 (x4 + (1 : Int32))
set_option maxRecDepth 20000 in
theorem j_X8_above_87 {p : Program} {l : Launch} {e : Env} {R : Room} {s : State} {m : MethodId} {args : Array Value} {below : List Frame} {meth : Method} {c : Code} {w : WK} (C : CX p R s m args meth c w RX8 cX8_above 5 (some .int) 5 110) (h : TT)   {k27 : Int32 → Int32 → Int32 → Int32 → Option Int32} (hk27 : ∀ (x1 : Int32) (x2 : Int32) (x3 : Int32) (x4 : Int32) , GO p l e R s m args below meth c w 5 (fI h) (k27 x1 x2 x3 x4) 27 [(0, .ref (w.2.1 (147))), (1, .int x1), (2, .int x2), (3, .int x3), (4, .int x4)] [] h) (x1 : Int32) (x2 : Int32) (x4 : Int32) (xs0 : Int32) (xs1 : Int32)  : GO p l e R s m args below meth c w 5 (fI h) (f_X8_above_87 h k27 x1 x2 x4 xs0 xs1) 87 [(0, .ref (w.2.1 (147))), (1, .int x1), (2, .int x2), (4, .int x4)] [.int xs0, .int xs1] h := by
  unfold f_X8_above_87
  refine g_iadd (pc := 87) C dX8_above_87 ?_
  refine g_nmi (fun y11 => ?_)
  refine g_istore_n (pc := 88) C dX8_above_88 rfl (by decide) (lv' := [(3, .int y11), (0, .ref (w.2.1 (147))), (1, .int x1), (2, .int x2), (4, .int x4)]) rfl ?_
  refine g_iinc (pc := 89) C 4 rfl dX8_above_89 (ki_1 _) (by decide) (lv' := [(4, .int (x4 + (1 : Int32))), (3, .int y11), (0, .ref (w.2.1 (147))), (1, .int x1), (2, .int x2)]) rfl ?_
  refine g_goto (pc := 92) (tgt := 27) C dX8_above_92 (by decide) ?_
  refine g_lv (lv' := [(0, .ref (w.2.1 (147))), (1, .int x1), (2, .int x2), (3, .int y11), (4, .int (x4 + (1 : Int32)))]) [2, 3, 4, 1, 0] rfl ?_
  exact hk27 x1 x2 y11 (x4 + (1 : Int32))
def f_X8_above_86 (h : TT)  (k27 : Int32 → Int32 → Int32 → Int32 → Option Int32) (x1 : Int32) (x2 : Int32) (x4 : Int32) (xs0 : Int32) : Option Int32 := f_X8_above_87 h k27 x1 x2 x4 (0 : Int32) xs0
set_option maxRecDepth 20000 in
theorem j_X8_above_86 {p : Program} {l : Launch} {e : Env} {R : Room} {s : State} {m : MethodId} {args : Array Value} {below : List Frame} {meth : Method} {c : Code} {w : WK} (C : CX p R s m args meth c w RX8 cX8_above 5 (some .int) 5 110) (h : TT)   {k27 : Int32 → Int32 → Int32 → Int32 → Option Int32} (hk27 : ∀ (x1 : Int32) (x2 : Int32) (x3 : Int32) (x4 : Int32) , GO p l e R s m args below meth c w 5 (fI h) (k27 x1 x2 x3 x4) 27 [(0, .ref (w.2.1 (147))), (1, .int x1), (2, .int x2), (3, .int x3), (4, .int x4)] [] h) (x1 : Int32) (x2 : Int32) (x4 : Int32) (xs0 : Int32)  : GO p l e R s m args below meth c w 5 (fI h) (f_X8_above_86 h k27 x1 x2 x4 xs0) 86 [(0, .ref (w.2.1 (147))), (1, .int x1), (2, .int x2), (4, .int x4)] [.int xs0] h := by
  unfold f_X8_above_86
  refine g_iconst (pc := 86) (v := 0) C dX8_above_86 kc_0 ?_
  exact j_X8_above_87 C h hk27 x1 x2 x4 (0 : Int32) xs0
def f_X8_above_82 (h : TT)  (k27 : Int32 → Int32 → Int32 → Int32 → Option Int32) (x1 : Int32) (x2 : Int32) (x4 : Int32) (xs0 : Int32) : Option Int32 := f_X8_above_87 h k27 x1 x2 x4 (1 : Int32) xs0
set_option maxRecDepth 20000 in
theorem j_X8_above_82 {p : Program} {l : Launch} {e : Env} {R : Room} {s : State} {m : MethodId} {args : Array Value} {below : List Frame} {meth : Method} {c : Code} {w : WK} (C : CX p R s m args meth c w RX8 cX8_above 5 (some .int) 5 110) (h : TT)   {k27 : Int32 → Int32 → Int32 → Int32 → Option Int32} (hk27 : ∀ (x1 : Int32) (x2 : Int32) (x3 : Int32) (x4 : Int32) , GO p l e R s m args below meth c w 5 (fI h) (k27 x1 x2 x3 x4) 27 [(0, .ref (w.2.1 (147))), (1, .int x1), (2, .int x2), (3, .int x3), (4, .int x4)] [] h) (x1 : Int32) (x2 : Int32) (x4 : Int32) (xs0 : Int32)  : GO p l e R s m args below meth c w 5 (fI h) (f_X8_above_82 h k27 x1 x2 x4 xs0) 82 [(0, .ref (w.2.1 (147))), (1, .int x1), (2, .int x2), (4, .int x4)] [.int xs0] h := by
  unfold f_X8_above_82
  refine g_iconst (pc := 82) (v := 1) C dX8_above_82 kc_1 ?_
  refine g_goto (pc := 83) (tgt := 87) C dX8_above_83 (by decide) ?_
  exact j_X8_above_87 C h hk27 x1 x2 x4 (1 : Int32) xs0
def f_X8_above_27 (h : TT)   : Nat → Int32 → Int32 → Int32 → Int32 → Option Int32
  | 0, _, _, _, _ => none
  | n + 1, x1, x2, x3, x4 => (f_X8_start h x2).bind fun r6 => (f_X8_size h x2).bind fun r7 => (if (r6 + r7) ≤ x4 then f_X8_above_95 h x3 else (f_X8_isLaid h x4).bind fun r9 => (if r9 = 0 then f_X8_above_86 h (f_X8_above_27 h n) x1 x2 x4 x3 else (f_X8_hasSlumped h x4).bind fun r12 => (if r12 = 0 then (f_X8_restsOn h x4).bind fun r14 => (if r14 = x1 then f_X8_above_82 h (f_X8_above_27 h n) x1 x2 x4 x3 else (f_X8_restsToo h x4).bind fun r16 => (if r16 = x1 then f_X8_above_82 h (f_X8_above_27 h n) x1 x2 x4 x3 else f_X8_above_86 h (f_X8_above_27 h n) x1 x2 x4 x3)) else f_X8_above_86 h (f_X8_above_27 h n) x1 x2 x4 x3)))
set_option maxRecDepth 20000 in
theorem j_X8_above_27 {p : Program} {l : Launch} {e : Env} {R : Room} {s : State} {m : MethodId} {args : Array Value} {below : List Frame} {meth : Method} {c : Code} {w : WK} (C : CX p R s m args meth c w RX8 cX8_above 5 (some .int) 5 110) (h : TT)    : ∀ (n : Nat) (x1 : Int32) (x2 : Int32) (x3 : Int32) (x4 : Int32), GO p l e R s m args below meth c w 5 (fI h) (f_X8_above_27 h n x1 x2 x3 x4) 27 [(0, .ref (w.2.1 (147))), (1, .int x1), (2, .int x2), (3, .int x3), (4, .int x4)] [] h := by
  intro n
  induction n with
  | zero =>
    intro x1 x2 x3 x4
    exact g_none
  | succ n ih =>
    intro x1 x2 x3 x4
    rw [f_X8_above_27]
    refine g_iload (pc := 27) C 4 rfl dX8_above_27 ?_
    refine g_aload_n (pc := 29) C 0 rfl dX8_above_29 rfl ?_
    refine g_iload_n (pc := 30) C 2 rfl dX8_above_30 rfl ?_
    refine g_callI (pc := 31) (rest := [.int x4]) (g_runV C mv_RX8_160 (fun x1 hx1 => m_X8_start hx1) so_RX8 rfl (by decide) rfl rfl (Nat.le_of_ble_eq_true rfl) dX8_above_31) (fun r6 => ?_)
    refine g_aload_n (pc := 34) C 0 rfl dX8_above_34 rfl ?_
    refine g_iload_n (pc := 35) C 2 rfl dX8_above_35 rfl ?_
    refine g_callI (pc := 36) (rest := [.int r6, .int x4]) (g_runV C mv_RX8_157 (fun x1 hx1 => m_X8_size hx1) so_RX8 rfl (by decide) rfl rfl (Nat.le_of_ble_eq_true rfl) dX8_above_36) (fun r7 => ?_)
    refine g_iadd (pc := 39) C dX8_above_39 ?_
    refine g_icmp_ge (pc := 40) (tgt := 95) C dX8_above_40 (by decide) (fun hc8 => ?_) (fun hc8 => ?_)
    · refine g_lv (lv' := [(3, .int x3)]) [3] rfl ?_
      exact j_X8_above_95 C h x3
    · refine g_iload_n (pc := 43) C 3 rfl dX8_above_43 rfl ?_
      refine g_aload_n (pc := 44) C 0 rfl dX8_above_44 rfl ?_
      refine g_iload (pc := 45) C 4 rfl dX8_above_45 ?_
      refine g_callI (pc := 47) (rest := [.int x3]) (g_runV C mv_RX8_182 (fun x1 hx1 => m_X8_isLaid hx1) so_RX8 rfl (by decide) rfl rfl (Nat.le_of_ble_eq_true rfl) dX8_above_47) (fun r9 => ?_)
      refine g_if_eq (pc := 50) (tgt := 86) C dX8_above_50 (by decide) (fun hc10 => ?_) (fun hc10 => ?_)
      · refine g_lv (lv' := [(0, .ref (w.2.1 (147))), (1, .int x1), (2, .int x2), (4, .int x4)]) [0, 1, 2, 4] rfl ?_
        exact j_X8_above_86 C h ih x1 x2 x4 x3
      · refine g_aload_n (pc := 53) C 0 rfl dX8_above_53 rfl ?_
        refine g_iload (pc := 54) C 4 rfl dX8_above_54 ?_
        refine g_callI (pc := 56) (rest := [.int x3]) (g_runV C mv_RX8_185 (fun x1 hx1 => m_X8_hasSlumped hx1) so_RX8 rfl (by decide) rfl rfl (Nat.le_of_ble_eq_true rfl) dX8_above_56) (fun r12 => ?_)
        refine g_if_ne (pc := 59) (tgt := 86) C dX8_above_59 (by decide) (fun hc13 => ?_) (fun hc13 => ?_)
        · refine g_aload_n (pc := 62) C 0 rfl dX8_above_62 rfl ?_
          refine g_iload (pc := 63) C 4 rfl dX8_above_63 ?_
          refine g_callI (pc := 65) (rest := [.int x3]) (g_runV C mv_RX8_194 (fun x1 hx1 => m_X8_restsOn hx1) so_RX8 rfl (by decide) rfl rfl (Nat.le_of_ble_eq_true rfl) dX8_above_65) (fun r14 => ?_)
          refine g_iload_n (pc := 68) C 1 rfl dX8_above_68 rfl ?_
          refine g_icmp_eq (pc := 69) (tgt := 82) C dX8_above_69 (by decide) (fun hc15 => ?_) (fun hc15 => ?_)
          · refine g_lv (lv' := [(0, .ref (w.2.1 (147))), (1, .int x1), (2, .int x2), (4, .int x4)]) [0, 1, 2, 4] rfl ?_
            exact j_X8_above_82 C h ih x1 x2 x4 x3
          · refine g_aload_n (pc := 72) C 0 rfl dX8_above_72 rfl ?_
            refine g_iload (pc := 73) C 4 rfl dX8_above_73 ?_
            refine g_callI (pc := 75) (rest := [.int x3]) (g_runV C mv_RX8_212 (fun x1 hx1 => m_X8_restsToo hx1) so_RX8 rfl (by decide) rfl rfl (Nat.le_of_ble_eq_true rfl) dX8_above_75) (fun r16 => ?_)
            refine g_iload_n (pc := 78) C 1 rfl dX8_above_78 rfl ?_
            refine g_icmp_ne (pc := 79) (tgt := 86) C dX8_above_79 (by decide) (fun hc17 => ?_) (fun hc17 => ?_)
            · refine g_lv (lv' := [(0, .ref (w.2.1 (147))), (1, .int x1), (2, .int x2), (4, .int x4)]) [0, 1, 2, 4] rfl ?_
              exact j_X8_above_82 C h ih x1 x2 x4 x3
            · refine g_lv (lv' := [(0, .ref (w.2.1 (147))), (1, .int x1), (2, .int x2), (4, .int x4)]) [0, 1, 2, 4] rfl ?_
              exact j_X8_above_86 C h ih x1 x2 x4 x3
        · refine g_lv (lv' := [(0, .ref (w.2.1 (147))), (1, .int x1), (2, .int x2), (4, .int x4)]) [0, 1, 2, 4] rfl ?_
          exact j_X8_above_86 C h ih x1 x2 x4 x3
def f_X8_above (h : TT) (x1 : Int32) : Option Int32 := (f_X8_courseOf h x1).bind fun r1 => nm (r1 + (1 : Int32)) fun y2 => (f_X8_v h (6 : Int32)).bind fun r3 => (if r3 ≤ y2 then f_X8_above_95 h (0 : Int32) else (f_X8_start h y2).bind fun r5 => f_X8_above_27 h KF x1 y2 (0 : Int32) r5)
set_option maxRecDepth 20000 in
theorem m_X8_above {l : Launch} {w : WK} {h : TT} {x1 : Int32} {x : Int32} (hx : f_X8_above h x1 = some x)  : Met l yX8_above (Cond.code yX8_above cX8_above 5 (some .int) :: wsG) { frames := 5, cells := 0, slots := 0, locals := 110 } (PG w [.ref (w.2.1 (147)), .int x1] h) (QG w ((fI h) x)) 0 0 (AA w) := by
  refine m_entry (own := RX8) (f := (fI h)) hx (by decide) rfl (Nat.le_of_ble_eq_true rfl) (fun p e s m args below meth c C => ?_)
  show GO p l e _ s m args below meth c w 5 (fI h) (f_X8_above h x1) 0 [(0, .ref (w.2.1 (147))), (1, .int x1)] [] h
  unfold f_X8_above
  refine g_aload_n (pc := 0) C 0 rfl dX8_above_0 rfl ?_
  refine g_iload_n (pc := 1) C 1 rfl dX8_above_1 rfl ?_
  refine g_callI (pc := 2) (rest := []) (g_runV C mv_RX8_191 (fun x1 hx1 => m_X8_courseOf hx1) so_RX8 rfl (by decide) rfl rfl (Nat.le_of_ble_eq_true rfl) dX8_above_2) (fun r1 => ?_)
  refine g_iconst (pc := 5) (v := 1) C dX8_above_5 kc_1 ?_
  refine g_iadd (pc := 6) C dX8_above_6 ?_
  refine g_nmi (fun y2 => ?_)
  refine g_istore_n (pc := 7) C dX8_above_7 rfl (by decide) (lv' := [(2, .int y2), (0, .ref (w.2.1 (147))), (1, .int x1)]) rfl ?_
  refine g_iconst (pc := 8) (v := 0) C dX8_above_8 kc_0 ?_
  refine g_istore_n (pc := 9) C dX8_above_9 rfl (by decide) (lv' := [(3, .int (0 : Int32)), (2, .int y2), (0, .ref (w.2.1 (147))), (1, .int x1)]) rfl ?_
  refine g_iload_n (pc := 10) C 1 rfl dX8_above_10 rfl ?_
  refine g_aload_n (pc := 11) C 2 rfl dX8_above_11 rfl ?_
  refine g_bipush (pc := 12) (v := 6) C dX8_above_12 kb_6 ?_
  refine g_callI (pc := 14) (rest := [.int y2]) (g_runV C mv_RX8_154 (fun x1 hx1 => m_X8_v hx1) so_RX8 rfl (by decide) rfl rfl (Nat.le_of_ble_eq_true rfl) dX8_above_14) (fun r3 => ?_)
  refine g_icmp_ge (pc := 17) (tgt := 95) C dX8_above_17 (by decide) (fun hc4 => ?_) (fun hc4 => ?_)
  · refine g_lv (lv' := [(3, .int (0 : Int32))]) [0] rfl ?_
    exact j_X8_above_95 C h (0 : Int32)
  · refine g_aload_n (pc := 20) C 2 rfl dX8_above_20 rfl ?_
    refine g_iload_n (pc := 21) C 1 rfl dX8_above_21 rfl ?_
    refine g_callI (pc := 22) (rest := []) (g_runV C mv_RX8_160 (fun x1 hx1 => m_X8_start hx1) so_RX8 rfl (by decide) rfl rfl (Nat.le_of_ble_eq_true rfl) dX8_above_22) (fun r5 => ?_)
    refine g_istore (pc := 25) C dX8_above_25 (by decide) (lv' := [(4, .int r5), (3, .int (0 : Int32)), (2, .int y2), (0, .ref (w.2.1 (147))), (1, .int x1)]) rfl ?_
    refine g_lv (lv' := [(0, .ref (w.2.1 (147))), (1, .int x1), (2, .int y2), (3, .int (0 : Int32)), (4, .int r5)]) [3, 4, 2, 1, 0] rfl ?_
    exact j_X8_above_27 C h KF x1 y2 (0 : Int32) r5
/-- SnowHouseModel.pullOf(I)I -/
def f_X8_pullOf_87 (h : TT)   (x2 : Int32) : Option Int32 := some x2
set_option maxRecDepth 20000 in
theorem j_X8_pullOf_87 {p : Program} {l : Launch} {e : Env} {R : Room} {s : State} {m : MethodId} {args : Array Value} {below : List Frame} {meth : Method} {c : Code} {w : WK} (C : CX p R s m args meth c w RX8 cX8_pullOf 3 (some .int) 6 134) (h : TT)    (x2 : Int32)  : GO p l e R s m args below meth c w 3 (fI h) (f_X8_pullOf_87 h x2) 87 [(2, .int x2)] [] h := by
  unfold f_X8_pullOf_87
  refine g_iload_n (pc := 87) C 0 rfl dX8_pullOf_87 rfl ?_
  exact g_iret C dX8_pullOf_88
def f_X8_pullOf_85 (h : TT)   (xs0 : Int32) (xs1 : Int32) : Option Int32 := nm (xs1 + xs0) fun y15 => f_X8_pullOf_87 h y15
set_option maxRecDepth 20000 in
theorem j_X8_pullOf_85 {p : Program} {l : Launch} {e : Env} {R : Room} {s : State} {m : MethodId} {args : Array Value} {below : List Frame} {meth : Method} {c : Code} {w : WK} (C : CX p R s m args meth c w RX8 cX8_pullOf 3 (some .int) 6 134) (h : TT)    (xs0 : Int32) (xs1 : Int32)  : GO p l e R s m args below meth c w 3 (fI h) (f_X8_pullOf_85 h xs0 xs1) 85 [] [.int xs0, .int xs1] h := by
  unfold f_X8_pullOf_85
  refine g_iadd (pc := 85) C dX8_pullOf_85 ?_
  refine g_nmi (fun y15 => ?_)
  refine g_istore_n (pc := 86) C dX8_pullOf_86 rfl (by decide) (lv' := [(2, .int y15)]) rfl ?_
  exact j_X8_pullOf_87 C h y15
def f_X8_pullOf_84 (h : TT)   (xs0 : Int32) : Option Int32 := f_X8_pullOf_85 h (0 : Int32) xs0
set_option maxRecDepth 20000 in
theorem j_X8_pullOf_84 {p : Program} {l : Launch} {e : Env} {R : Room} {s : State} {m : MethodId} {args : Array Value} {below : List Frame} {meth : Method} {c : Code} {w : WK} (C : CX p R s m args meth c w RX8 cX8_pullOf 3 (some .int) 6 134) (h : TT)    (xs0 : Int32)  : GO p l e R s m args below meth c w 3 (fI h) (f_X8_pullOf_84 h xs0) 84 [] [.int xs0] h := by
  unfold f_X8_pullOf_84
  refine g_iconst (pc := 84) (v := 0) C dX8_pullOf_84 kc_0 ?_
  exact j_X8_pullOf_85 C h (0 : Int32) xs0
def f_X8_pullOf_52 (h : TT)   (x1 : Int32) (xs0 : Int32) (xs1 : Int32) : Option Int32 := nm (xs1 + xs0) fun y11 => (f_X8_restsToo h x1).bind fun r12 => (f_X8_restsOn h x1).bind fun r13 => (if r12 = r13 then f_X8_pullOf_84 h y11 else (f_X8_restsToo h x1).bind fun r16 => (f_X8_isCut h r16).bind fun r17 => (if r17 = 0 then f_X8_pullOf_84 h y11 else f_X8_pullOf_85 h (2 : Int32) y11))
set_option maxRecDepth 20000 in
theorem j_X8_pullOf_52 {p : Program} {l : Launch} {e : Env} {R : Room} {s : State} {m : MethodId} {args : Array Value} {below : List Frame} {meth : Method} {c : Code} {w : WK} (C : CX p R s m args meth c w RX8 cX8_pullOf 3 (some .int) 6 134) (h : TT)    (x1 : Int32) (xs0 : Int32) (xs1 : Int32)  : GO p l e R s m args below meth c w 3 (fI h) (f_X8_pullOf_52 h x1 xs0 xs1) 52 [(0, .ref (w.2.1 (147))), (1, .int x1)] [.int xs0, .int xs1] h := by
  unfold f_X8_pullOf_52
  refine g_iadd (pc := 52) C dX8_pullOf_52 ?_
  refine g_nmi (fun y11 => ?_)
  refine g_istore_n (pc := 53) C dX8_pullOf_53 rfl (by decide) (lv' := [(2, .int y11), (0, .ref (w.2.1 (147))), (1, .int x1)]) rfl ?_
  refine g_iload_n (pc := 54) C 0 rfl dX8_pullOf_54 rfl ?_
  refine g_aload_n (pc := 55) C 1 rfl dX8_pullOf_55 rfl ?_
  refine g_iload_n (pc := 56) C 2 rfl dX8_pullOf_56 rfl ?_
  refine g_callI (pc := 57) (rest := [.int y11]) (g_runV C mv_RX8_212 (fun x1 hx1 => m_X8_restsToo hx1) so_RX8 rfl (by decide) rfl rfl (Nat.le_of_ble_eq_true rfl) dX8_pullOf_57) (fun r12 => ?_)
  refine g_aload_n (pc := 60) C 1 rfl dX8_pullOf_60 rfl ?_
  refine g_iload_n (pc := 61) C 2 rfl dX8_pullOf_61 rfl ?_
  refine g_callI (pc := 62) (rest := [.int r12, .int y11]) (g_runV C mv_RX8_194 (fun x1 hx1 => m_X8_restsOn hx1) so_RX8 rfl (by decide) rfl rfl (Nat.le_of_ble_eq_true rfl) dX8_pullOf_62) (fun r13 => ?_)
  refine g_icmp_eq (pc := 65) (tgt := 84) C dX8_pullOf_65 (by decide) (fun hc14 => ?_) (fun hc14 => ?_)
  · refine g_lv (lv' := []) [] rfl ?_
    exact j_X8_pullOf_84 C h y11
  · refine g_aload_n (pc := 68) C 1 rfl dX8_pullOf_68 rfl ?_
    refine g_aload_n (pc := 69) C 1 rfl dX8_pullOf_69 rfl ?_
    refine g_iload_n (pc := 70) C 2 rfl dX8_pullOf_70 rfl ?_
    refine g_callI (pc := 71) (rest := [.ref (w.2.1 (147)), .int y11]) (g_runV C mv_RX8_212 (fun x1 hx1 => m_X8_restsToo hx1) so_RX8 rfl (by decide) rfl rfl (Nat.le_of_ble_eq_true rfl) dX8_pullOf_71) (fun r16 => ?_)
    refine g_callI (pc := 74) (rest := [.int y11]) (g_runV C mv_RX8_188 (fun x1 hx1 => m_X8_isCut hx1) so_RX8 rfl (by decide) rfl rfl (Nat.le_of_ble_eq_true rfl) dX8_pullOf_74) (fun r17 => ?_)
    refine g_if_eq (pc := 77) (tgt := 84) C dX8_pullOf_77 (by decide) (fun hc18 => ?_) (fun hc18 => ?_)
    · refine g_lv (lv' := []) [] rfl ?_
      exact j_X8_pullOf_84 C h y11
    · refine g_iconst (pc := 80) (v := 2) C dX8_pullOf_80 kc_2 ?_
      refine g_goto (pc := 81) (tgt := 85) C dX8_pullOf_81 (by decide) ?_
      refine g_lv (lv' := []) [] rfl ?_
      exact j_X8_pullOf_85 C h (2 : Int32) y11
def f_X8_pullOf (h : TT) (x1 : Int32) : Option Int32 := (f_X8_courseOf h x1).bind fun r1 => (f_X8_lean0 h r1).bind fun r2 => (f_X8_v h (3 : Int32)).bind fun r3 => (f_X8_above h x1).bind fun r4 => nm (((r2 * r3) / (2 : Int32)) + r4) fun y5 => (f_X8_restsOn h x1).bind fun r6 => (if r6 = (-9 : Int32) then f_X8_pullOf_87 h y5 else (f_X8_restsOn h x1).bind fun r8 => (f_X8_isCut h r8).bind fun r9 => (if r9 = 0 then f_X8_pullOf_52 h x1 (0 : Int32) y5 else f_X8_pullOf_52 h x1 (2 : Int32) y5))
set_option maxRecDepth 20000 in
theorem m_X8_pullOf {l : Launch} {w : WK} {h : TT} {x1 : Int32} {x : Int32} (hx : f_X8_pullOf h x1 = some x)  : Met l yX8_pullOf (Cond.code yX8_pullOf cX8_pullOf 3 (some .int) :: wsG) { frames := 6, cells := 0, slots := 0, locals := 134 } (PG w [.ref (w.2.1 (147)), .int x1] h) (QG w ((fI h) x)) 0 0 (AA w) := by
  refine m_entry (own := RX8) (f := (fI h)) hx (by decide) rfl (Nat.le_of_ble_eq_true rfl) (fun p e s m args below meth c C => ?_)
  show GO p l e _ s m args below meth c w 3 (fI h) (f_X8_pullOf h x1) 0 [(0, .ref (w.2.1 (147))), (1, .int x1)] [] h
  unfold f_X8_pullOf
  refine g_aload_n (pc := 0) C 0 rfl dX8_pullOf_0 rfl ?_
  refine g_aload_n (pc := 1) C 0 rfl dX8_pullOf_1 rfl ?_
  refine g_iload_n (pc := 2) C 1 rfl dX8_pullOf_2 rfl ?_
  refine g_callI (pc := 3) (rest := [.ref (w.2.1 (147))]) (g_runV C mv_RX8_191 (fun x1 hx1 => m_X8_courseOf hx1) so_RX8 rfl (by decide) rfl rfl (Nat.le_of_ble_eq_true rfl) dX8_pullOf_3) (fun r1 => ?_)
  refine g_callI (pc := 6) (rest := []) (g_runV C mv_RX8_215 (fun x1 hx1 => m_X8_lean0 hx1) so_RX8 rfl (by decide) rfl rfl (Nat.le_of_ble_eq_true rfl) dX8_pullOf_6) (fun r2 => ?_)
  refine g_aload_n (pc := 9) C 0 rfl dX8_pullOf_9 rfl ?_
  refine g_iconst (pc := 10) (v := 3) C dX8_pullOf_10 kc_3 ?_
  refine g_callI (pc := 11) (rest := [.int r2]) (g_runV C mv_RX8_154 (fun x1 hx1 => m_X8_v hx1) so_RX8 rfl (by decide) rfl rfl (Nat.le_of_ble_eq_true rfl) dX8_pullOf_11) (fun r3 => ?_)
  refine g_imul (pc := 14) C dX8_pullOf_14 ?_
  refine g_iconst (pc := 15) (v := 2) C dX8_pullOf_15 kc_2 ?_
  refine g_idiv (pc := 16) C dX8_pullOf_16 (by decide) ?_
  refine g_aload_n (pc := 17) C 0 rfl dX8_pullOf_17 rfl ?_
  refine g_iload_n (pc := 18) C 1 rfl dX8_pullOf_18 rfl ?_
  refine g_callI (pc := 19) (rest := [.int ((r2 * r3) / (2 : Int32))]) (g_runV C mv_RX8_218 (fun x1 hx1 => m_X8_above hx1) so_RX8 rfl (by decide) rfl rfl (Nat.le_of_ble_eq_true rfl) dX8_pullOf_19) (fun r4 => ?_)
  refine g_iadd (pc := 22) C dX8_pullOf_22 ?_
  refine g_nmi (fun y5 => ?_)
  refine g_istore_n (pc := 23) C dX8_pullOf_23 rfl (by decide) (lv' := [(2, .int y5), (0, .ref (w.2.1 (147))), (1, .int x1)]) rfl ?_
  refine g_aload_n (pc := 24) C 1 rfl dX8_pullOf_24 rfl ?_
  refine g_iload_n (pc := 25) C 2 rfl dX8_pullOf_25 rfl ?_
  refine g_callI (pc := 26) (rest := []) (g_runV C mv_RX8_194 (fun x1 hx1 => m_X8_restsOn hx1) so_RX8 rfl (by decide) rfl rfl (Nat.le_of_ble_eq_true rfl) dX8_pullOf_26) (fun r6 => ?_)
  refine g_bipush (pc := 29) (v := -9) C dX8_pullOf_29 kb_m9 ?_
  refine g_icmp_eq (pc := 31) (tgt := 87) C dX8_pullOf_31 (by decide) (fun hc7 => ?_) (fun hc7 => ?_)
  · refine g_lv (lv' := [(2, .int y5)]) [0] rfl ?_
    exact j_X8_pullOf_87 C h y5
  · refine g_iload_n (pc := 34) C 0 rfl dX8_pullOf_34 rfl ?_
    refine g_aload_n (pc := 35) C 1 rfl dX8_pullOf_35 rfl ?_
    refine g_aload_n (pc := 36) C 1 rfl dX8_pullOf_36 rfl ?_
    refine g_iload_n (pc := 37) C 2 rfl dX8_pullOf_37 rfl ?_
    refine g_callI (pc := 38) (rest := [.ref (w.2.1 (147)), .int y5]) (g_runV C mv_RX8_194 (fun x1 hx1 => m_X8_restsOn hx1) so_RX8 rfl (by decide) rfl rfl (Nat.le_of_ble_eq_true rfl) dX8_pullOf_38) (fun r8 => ?_)
    refine g_callI (pc := 41) (rest := [.int y5]) (g_runV C mv_RX8_188 (fun x1 hx1 => m_X8_isCut hx1) so_RX8 rfl (by decide) rfl rfl (Nat.le_of_ble_eq_true rfl) dX8_pullOf_41) (fun r9 => ?_)
    refine g_if_eq (pc := 44) (tgt := 51) C dX8_pullOf_44 (by decide) (fun hc10 => ?_) (fun hc10 => ?_)
    · refine g_iconst (pc := 51) (v := 0) C dX8_pullOf_51 kc_0 ?_
      refine g_lv (lv' := [(0, .ref (w.2.1 (147))), (1, .int x1)]) [1, 2] rfl ?_
      exact j_X8_pullOf_52 C h x1 (0 : Int32) y5
    · refine g_iconst (pc := 47) (v := 2) C dX8_pullOf_47 kc_2 ?_
      refine g_goto (pc := 48) (tgt := 52) C dX8_pullOf_48 (by decide) ?_
      refine g_lv (lv' := [(0, .ref (w.2.1 (147))), (1, .int x1)]) [1, 2] rfl ?_
      exact j_X8_pullOf_52 C h x1 (2 : Int32) y5
/-- SnowHouseModel.slumpsNow(I)Z -/
def f_X8_slumpsNow_47 (h : TT)    : Option Int32 := some (1 : Int32)
set_option maxRecDepth 20000 in
theorem j_X8_slumpsNow_47 {p : Program} {l : Launch} {e : Env} {R : Room} {s : State} {m : MethodId} {args : Array Value} {below : List Frame} {meth : Method} {c : Code} {w : WK} (C : CX p R s m args meth c w RX8 cX8_slumpsNow 2 (some .boolean) 7 156) (h : TT)      : GO p l e R s m args below meth c w 2 (fI h) (f_X8_slumpsNow_47 h) 47 [] [] h := by
  unfold f_X8_slumpsNow_47
  refine g_iconst (pc := 47) (v := 1) C dX8_slumpsNow_47 kc_1 ?_
  refine g_goto (pc := 48) (tgt := 52) C dX8_slumpsNow_48 (by decide) ?_
  exact g_zret C dX8_slumpsNow_52 rfl
def f_X8_slumpsNow (h : TT) (x1 : Int32) : Option Int32 := (f_X8_pullOf h x1).bind fun r1 => (f_X8_holdOf h x1).bind fun r2 => (if r2 < r1 then f_X8_slumpsNow_47 h else (f_X8_restsOn h x1).bind fun r4 => (if r4 = (-9 : Int32) then some (0 : Int32) else (f_X8_restsOn h x1).bind fun r6 => (f_X8_hasSlumped h r6).bind fun r7 => (if r7 = 0 then (f_X8_restsToo h x1).bind fun r9 => (f_X8_hasSlumped h r9).bind fun r10 => (if r10 = 0 then some (0 : Int32) else f_X8_slumpsNow_47 h) else f_X8_slumpsNow_47 h)))
set_option maxRecDepth 20000 in
theorem m_X8_slumpsNow {l : Launch} {w : WK} {h : TT} {x1 : Int32} {x : Int32} (hx : f_X8_slumpsNow h x1 = some x)  : Met l yX8_slumpsNow (Cond.code yX8_slumpsNow cX8_slumpsNow 2 (some .boolean) :: wsG) { frames := 7, cells := 0, slots := 0, locals := 156 } (PG w [.ref (w.2.1 (147)), .int x1] h) (QG w ((fI h) x)) 0 0 (AA w) := by
  refine m_entry (own := RX8) (f := (fI h)) hx (by decide) rfl (Nat.le_of_ble_eq_true rfl) (fun p e s m args below meth c C => ?_)
  show GO p l e _ s m args below meth c w 2 (fI h) (f_X8_slumpsNow h x1) 0 [(0, .ref (w.2.1 (147))), (1, .int x1)] [] h
  unfold f_X8_slumpsNow
  refine g_aload_n (pc := 0) C 0 rfl dX8_slumpsNow_0 rfl ?_
  refine g_iload_n (pc := 1) C 1 rfl dX8_slumpsNow_1 rfl ?_
  refine g_callI (pc := 2) (rest := []) (g_runV C mv_RX8_221 (fun x1 hx1 => m_X8_pullOf hx1) so_RX8 rfl (by decide) rfl rfl (Nat.le_of_ble_eq_true rfl) dX8_slumpsNow_2) (fun r1 => ?_)
  refine g_aload_n (pc := 5) C 0 rfl dX8_slumpsNow_5 rfl ?_
  refine g_iload_n (pc := 6) C 1 rfl dX8_slumpsNow_6 rfl ?_
  refine g_callI (pc := 7) (rest := [.int r1]) (g_runV C mv_RX8_224 (fun x1 hx1 => m_X8_holdOf hx1) so_RX8 rfl (by decide) rfl rfl (Nat.le_of_ble_eq_true rfl) dX8_slumpsNow_7) (fun r2 => ?_)
  refine g_icmp_gt (pc := 10) (tgt := 47) C dX8_slumpsNow_10 (by decide) (fun hc3 => ?_) (fun hc3 => ?_)
  · refine g_lv (lv' := []) [] rfl ?_
    exact j_X8_slumpsNow_47 C h
  · refine g_aload_n (pc := 13) C 0 rfl dX8_slumpsNow_13 rfl ?_
    refine g_iload_n (pc := 14) C 1 rfl dX8_slumpsNow_14 rfl ?_
    refine g_callI (pc := 15) (rest := []) (g_runV C mv_RX8_194 (fun x1 hx1 => m_X8_restsOn hx1) so_RX8 rfl (by decide) rfl rfl (Nat.le_of_ble_eq_true rfl) dX8_slumpsNow_15) (fun r4 => ?_)
    refine g_bipush (pc := 18) (v := -9) C dX8_slumpsNow_18 kb_m9 ?_
    refine g_icmp_eq (pc := 20) (tgt := 51) C dX8_slumpsNow_20 (by decide) (fun hc5 => ?_) (fun hc5 => ?_)
    · refine g_iconst (pc := 51) (v := 0) C dX8_slumpsNow_51 kc_0 ?_
      exact g_zret C dX8_slumpsNow_52 rfl
    · refine g_aload_n (pc := 23) C 0 rfl dX8_slumpsNow_23 rfl ?_
      refine g_aload_n (pc := 24) C 0 rfl dX8_slumpsNow_24 rfl ?_
      refine g_iload_n (pc := 25) C 1 rfl dX8_slumpsNow_25 rfl ?_
      refine g_callI (pc := 26) (rest := [.ref (w.2.1 (147))]) (g_runV C mv_RX8_194 (fun x1 hx1 => m_X8_restsOn hx1) so_RX8 rfl (by decide) rfl rfl (Nat.le_of_ble_eq_true rfl) dX8_slumpsNow_26) (fun r6 => ?_)
      refine g_callI (pc := 29) (rest := []) (g_runV C mv_RX8_185 (fun x1 hx1 => m_X8_hasSlumped hx1) so_RX8 rfl (by decide) rfl rfl (Nat.le_of_ble_eq_true rfl) dX8_slumpsNow_29) (fun r7 => ?_)
      refine g_if_ne (pc := 32) (tgt := 47) C dX8_slumpsNow_32 (by decide) (fun hc8 => ?_) (fun hc8 => ?_)
      · refine g_aload_n (pc := 35) C 0 rfl dX8_slumpsNow_35 rfl ?_
        refine g_aload_n (pc := 36) C 0 rfl dX8_slumpsNow_36 rfl ?_
        refine g_iload_n (pc := 37) C 1 rfl dX8_slumpsNow_37 rfl ?_
        refine g_callI (pc := 38) (rest := [.ref (w.2.1 (147))]) (g_runV C mv_RX8_212 (fun x1 hx1 => m_X8_restsToo hx1) so_RX8 rfl (by decide) rfl rfl (Nat.le_of_ble_eq_true rfl) dX8_slumpsNow_38) (fun r9 => ?_)
        refine g_callI (pc := 41) (rest := []) (g_runV C mv_RX8_185 (fun x1 hx1 => m_X8_hasSlumped hx1) so_RX8 rfl (by decide) rfl rfl (Nat.le_of_ble_eq_true rfl) dX8_slumpsNow_41) (fun r10 => ?_)
        refine g_if_eq (pc := 44) (tgt := 51) C dX8_slumpsNow_44 (by decide) (fun hc11 => ?_) (fun hc11 => ?_)
        · refine g_iconst (pc := 51) (v := 0) C dX8_slumpsNow_51 kc_0 ?_
          exact g_zret C dX8_slumpsNow_52 rfl
        · refine g_lv (lv' := []) [] rfl ?_
          exact j_X8_slumpsNow_47 C h
      · refine g_lv (lv' := []) [] rfl ?_
        exact j_X8_slumpsNow_47 C h
/-- SnowHouseModel.settles()V -/
def f_X8_settles_54  (k2 : Int32 → TT → Option TT) (k10 : Int32 → Int32 → TT → Option TT) (x1 : Int32) (x2 : Int32) (h : TT) : Option TT := k10 x1 (x2 + (1 : Int32)) h
set_option maxRecDepth 20000 in
theorem j_X8_settles_54 {p : Program} {l : Launch} {e : Env} {R : Room} {s : State} {m : MethodId} {args : Array Value} {below : List Frame} {meth : Method} {c : Code} {w : WK} (C : CX p R s m args meth c w RX8 cX8_settles 3 none 8 177)    {k2 : Int32 → TT → Option TT} (hk2 : ∀ (x1 : Int32)  (h : TT), GO p l e R s m args below meth c w 3 fV (k2 x1 h) 2 [(0, .ref (w.2.1 (147))), (1, .int x1)] [] h) {k10 : Int32 → Int32 → TT → Option TT} (hk10 : ∀ (x1 : Int32) (x2 : Int32)  (h : TT), GO p l e R s m args below meth c w 3 fV (k10 x1 x2 h) 10 [(0, .ref (w.2.1 (147))), (1, .int x1), (2, .int x2)] [] h) (x1 : Int32) (x2 : Int32)  (h : TT) : GO p l e R s m args below meth c w 3 fV (f_X8_settles_54 k2 k10 x1 x2 h) 54 [(0, .ref (w.2.1 (147))), (1, .int x1), (2, .int x2)] [] h := by
  unfold f_X8_settles_54
  refine g_iinc (pc := 54) C 2 rfl dX8_settles_54 (ki_1 _) (by decide) (lv' := [(2, .int (x2 + (1 : Int32))), (0, .ref (w.2.1 (147))), (1, .int x1)]) rfl ?_
  refine g_goto (pc := 57) (tgt := 10) C dX8_settles_57 (by decide) ?_
  refine g_lv (lv' := [(0, .ref (w.2.1 (147))), (1, .int x1), (2, .int (x2 + (1 : Int32)))]) [1, 2, 0] rfl ?_
  exact hk10 x1 (x2 + (1 : Int32)) h
def f_X8_settles_10  (k2 : Int32 → TT → Option TT) : Nat → Int32 → Int32 → TT → Option TT
  | 0, _, _, _ => none
  | n + 1, x1, x2, h => (f_X8_v h (31 : Int32)).bind fun r2 => (if r2 ≤ x2 then k2 x1 h else (f_X8_isSound h x2).bind fun r4 => (if r4 = 0 then f_X8_settles_54 k2 (f_X8_settles_10 k2 n) x1 x2 h else (f_X8_slumpsNow h x2).bind fun r6 => (if r6 = 0 then f_X8_settles_54 k2 (f_X8_settles_10 k2 n) x1 x2 h else (f_X8_v h (31 : Int32)).bind fun r8 => (f_X8_put_ h ((32 : Int32) + x2) (r8 - (1 : Int32))).bind fun h9 => f_X8_settles_54 k2 (f_X8_settles_10 k2 n) (1 : Int32) x2 h9)))
set_option maxRecDepth 20000 in
theorem j_X8_settles_10 {p : Program} {l : Launch} {e : Env} {R : Room} {s : State} {m : MethodId} {args : Array Value} {below : List Frame} {meth : Method} {c : Code} {w : WK} (C : CX p R s m args meth c w RX8 cX8_settles 3 none 8 177)    {k2 : Int32 → TT → Option TT} (hk2 : ∀ (x1 : Int32)  (h : TT), GO p l e R s m args below meth c w 3 fV (k2 x1 h) 2 [(0, .ref (w.2.1 (147))), (1, .int x1)] [] h) : ∀ (n : Nat) (x1 : Int32) (x2 : Int32) (h : TT), GO p l e R s m args below meth c w 3 fV (f_X8_settles_10 k2 n x1 x2 h) 10 [(0, .ref (w.2.1 (147))), (1, .int x1), (2, .int x2)] [] h := by
  intro n
  induction n with
  | zero =>
    intro x1 x2 h
    exact g_none
  | succ n ih =>
    intro x1 x2 h
    rw [f_X8_settles_10]
    refine g_iload_n (pc := 10) C 2 rfl dX8_settles_10 rfl ?_
    refine g_aload_n (pc := 11) C 0 rfl dX8_settles_11 rfl ?_
    refine g_bipush (pc := 12) (v := 31) C dX8_settles_12 kb_31 ?_
    refine g_callI (pc := 14) (rest := [.int x2]) (g_runV C mv_RX8_154 (fun x1 hx1 => m_X8_v hx1) so_RX8 rfl (by decide) rfl rfl (Nat.le_of_ble_eq_true rfl) dX8_settles_14) (fun r2 => ?_)
    refine g_icmp_ge (pc := 17) (tgt := 60) C dX8_settles_17 (by decide) (fun hc3 => ?_) (fun hc3 => ?_)
    · refine g_goto (pc := 60) (tgt := 2) C dX8_settles_60 (by decide) ?_
      refine g_lv (lv' := [(0, .ref (w.2.1 (147))), (1, .int x1)]) [0, 1] rfl ?_
      exact hk2 x1 h
    · refine g_aload_n (pc := 20) C 0 rfl dX8_settles_20 rfl ?_
      refine g_iload_n (pc := 21) C 2 rfl dX8_settles_21 rfl ?_
      refine g_callI (pc := 22) (rest := []) (g_runV C mv_RX8_200 (fun x1 hx1 => m_X8_isSound hx1) so_RX8 rfl (by decide) rfl rfl (Nat.le_of_ble_eq_true rfl) dX8_settles_22) (fun r4 => ?_)
      refine g_if_eq (pc := 25) (tgt := 54) C dX8_settles_25 (by decide) (fun hc5 => ?_) (fun hc5 => ?_)
      · exact j_X8_settles_54 C hk2 ih x1 x2 h
      · refine g_aload_n (pc := 28) C 0 rfl dX8_settles_28 rfl ?_
        refine g_iload_n (pc := 29) C 2 rfl dX8_settles_29 rfl ?_
        refine g_callI (pc := 30) (rest := []) (g_runV C mv_RX8_227 (fun x1 hx1 => m_X8_slumpsNow hx1) so_RX8 rfl (by decide) rfl rfl (Nat.le_of_ble_eq_true rfl) dX8_settles_30) (fun r6 => ?_)
        refine g_if_eq (pc := 33) (tgt := 54) C dX8_settles_33 (by decide) (fun hc7 => ?_) (fun hc7 => ?_)
        · exact j_X8_settles_54 C hk2 ih x1 x2 h
        · refine g_aload_n (pc := 36) C 0 rfl dX8_settles_36 rfl ?_
          refine g_bipush (pc := 37) (v := 32) C dX8_settles_37 kb_32 ?_
          refine g_iload_n (pc := 39) C 2 rfl dX8_settles_39 rfl ?_
          refine g_iadd (pc := 40) C dX8_settles_40 ?_
          refine g_aload_n (pc := 41) C 0 rfl dX8_settles_41 rfl ?_
          refine g_bipush (pc := 42) (v := 31) C dX8_settles_42 kb_31 ?_
          refine g_callI (pc := 44) (rest := [.int ((32 : Int32) + x2), .ref (w.2.1 (147))]) (g_runV C mv_RX8_154 (fun x1 hx1 => m_X8_v hx1) so_RX8 rfl (by decide) rfl rfl (Nat.le_of_ble_eq_true rfl) dX8_settles_44) (fun r8 => ?_)
          refine g_iconst (pc := 47) (v := 1) C dX8_settles_47 kc_1 ?_
          refine g_isub (pc := 48) C dX8_settles_48 ?_
          refine g_callV (pc := 49) (rest := []) (g_runV C mv_RX8_163 (fun x1 hx1 => m_X8_put_ hx1) so_RX8 rfl (by decide) rfl rfl (Nat.le_of_ble_eq_true rfl) dX8_settles_49) (fun h9 => ?_)
          refine g_iconst (pc := 52) (v := 1) C dX8_settles_52 kc_1 ?_
          refine g_istore_n (pc := 53) C dX8_settles_53 rfl (by decide) (lv' := [(1, .int (1 : Int32)), (0, .ref (w.2.1 (147))), (2, .int x2)]) rfl ?_
          refine g_lv (lv' := [(0, .ref (w.2.1 (147))), (1, .int (1 : Int32)), (2, .int x2)]) [1, 0, 2] rfl ?_
          exact j_X8_settles_54 C hk2 ih (1 : Int32) x2 h9
def f_X8_settles_2   : Nat → Int32 → TT → Option TT
  | 0, _, _ => none
  | n + 1, x1, h => (if x1 = 0 then some h else f_X8_settles_10 (f_X8_settles_2 n) KF (0 : Int32) (0 : Int32) h)
set_option maxRecDepth 20000 in
theorem j_X8_settles_2 {p : Program} {l : Launch} {e : Env} {R : Room} {s : State} {m : MethodId} {args : Array Value} {below : List Frame} {meth : Method} {c : Code} {w : WK} (C : CX p R s m args meth c w RX8 cX8_settles 3 none 8 177)     : ∀ (n : Nat) (x1 : Int32) (h : TT), GO p l e R s m args below meth c w 3 fV (f_X8_settles_2 n x1 h) 2 [(0, .ref (w.2.1 (147))), (1, .int x1)] [] h := by
  intro n
  induction n with
  | zero =>
    intro x1 h
    exact g_none
  | succ n ih =>
    intro x1 h
    rw [f_X8_settles_2]
    refine g_iload_n (pc := 2) C 1 rfl dX8_settles_2 rfl ?_
    refine g_if_eq (pc := 3) (tgt := 63) C dX8_settles_3 (by decide) (fun hc1 => ?_) (fun hc1 => ?_)
    · exact g_vret C dX8_settles_63
    · refine g_iconst (pc := 6) (v := 0) C dX8_settles_6 kc_0 ?_
      refine g_istore_n (pc := 7) C dX8_settles_7 rfl (by decide) (lv' := [(1, .int (0 : Int32)), (0, .ref (w.2.1 (147)))]) rfl ?_
      refine g_iconst (pc := 8) (v := 0) C dX8_settles_8 kc_0 ?_
      refine g_istore_n (pc := 9) C dX8_settles_9 rfl (by decide) (lv' := [(2, .int (0 : Int32)), (1, .int (0 : Int32)), (0, .ref (w.2.1 (147)))]) rfl ?_
      refine g_lv (lv' := [(0, .ref (w.2.1 (147))), (1, .int (0 : Int32)), (2, .int (0 : Int32))]) [2, 1, 0] rfl ?_
      exact j_X8_settles_10 C ih KF (0 : Int32) (0 : Int32) h
def f_X8_settles (h : TT)  : Option TT := f_X8_settles_2 KF (1 : Int32) h
set_option maxRecDepth 20000 in
theorem m_X8_settles {l : Launch} {w : WK} {h : TT}  {x : TT} (hx : f_X8_settles h  = some x)  : Met l yX8_settles (Cond.code yX8_settles cX8_settles 3 none :: wsG) { frames := 8, cells := 0, slots := 0, locals := 177 } (PG w [.ref (w.2.1 (147))] h) (QG w (fV x)) 0 0 (AA w) := by
  refine m_entry (own := RX8) (f := fV) hx (by decide) rfl (Nat.le_of_ble_eq_true rfl) (fun p e s m args below meth c C => ?_)
  show GO p l e _ s m args below meth c w 3 fV (f_X8_settles h ) 0 [(0, .ref (w.2.1 (147)))] [] h
  unfold f_X8_settles
  refine g_iconst (pc := 0) (v := 1) C dX8_settles_0 kc_1 ?_
  refine g_istore_n (pc := 1) C dX8_settles_1 rfl (by decide) (lv' := [(1, .int (1 : Int32)), (0, .ref (w.2.1 (147)))]) rfl ?_
  refine g_lv (lv' := [(0, .ref (w.2.1 (147))), (1, .int (1 : Int32))]) [1, 0] rfl ?_
  exact j_X8_settles_2 C KF (1 : Int32) h
/-- SnowHouseModel.lays(I)V -/
def f_X8_lays_2   : Nat → Int32 → Int32 → TT → Option TT
  | 0, _, _, _ => none
  | n + 1, x1, x2, h => (if x1 ≤ x2 then some h else (f_X8_v h (31 : Int32)).bind fun r2 => (f_X8_put_ h (31 : Int32) (r2 + (1 : Int32))).bind fun h3 => (f_X8_settles h3).bind fun h4 => f_X8_lays_2 n x1 (x2 + (1 : Int32)) h4)
set_option maxRecDepth 20000 in
theorem j_X8_lays_2 {p : Program} {l : Launch} {e : Env} {R : Room} {s : State} {m : MethodId} {args : Array Value} {below : List Frame} {meth : Method} {c : Code} {w : WK} (C : CX p R s m args meth c w RX8 cX8_lays 3 none 9 199)     : ∀ (n : Nat) (x1 : Int32) (x2 : Int32) (h : TT), GO p l e R s m args below meth c w 3 fV (f_X8_lays_2 n x1 x2 h) 2 [(0, .ref (w.2.1 (147))), (1, .int x1), (2, .int x2)] [] h := by
  intro n
  induction n with
  | zero =>
    intro x1 x2 h
    exact g_none
  | succ n ih =>
    intro x1 x2 h
    rw [f_X8_lays_2]
    refine g_iload_n (pc := 2) C 2 rfl dX8_lays_2 rfl ?_
    refine g_iload_n (pc := 3) C 1 rfl dX8_lays_3 rfl ?_
    refine g_icmp_ge (pc := 4) (tgt := 31) C dX8_lays_4 (by decide) (fun hc1 => ?_) (fun hc1 => ?_)
    · exact g_vret C dX8_lays_31
    · refine g_aload_n (pc := 7) C 0 rfl dX8_lays_7 rfl ?_
      refine g_bipush (pc := 8) (v := 31) C dX8_lays_8 kb_31 ?_
      refine g_aload_n (pc := 10) C 0 rfl dX8_lays_10 rfl ?_
      refine g_bipush (pc := 11) (v := 31) C dX8_lays_11 kb_31 ?_
      refine g_callI (pc := 13) (rest := [.int (31 : Int32), .ref (w.2.1 (147))]) (g_runV C mv_RX8_154 (fun x1 hx1 => m_X8_v hx1) so_RX8 rfl (by decide) rfl rfl (Nat.le_of_ble_eq_true rfl) dX8_lays_13) (fun r2 => ?_)
      refine g_iconst (pc := 16) (v := 1) C dX8_lays_16 kc_1 ?_
      refine g_iadd (pc := 17) C dX8_lays_17 ?_
      refine g_callV (pc := 18) (rest := []) (g_runV C mv_RX8_163 (fun x1 hx1 => m_X8_put_ hx1) so_RX8 rfl (by decide) rfl rfl (Nat.le_of_ble_eq_true rfl) dX8_lays_18) (fun h3 => ?_)
      refine g_aload_n (pc := 21) C 0 rfl dX8_lays_21 rfl ?_
      refine g_callV (pc := 22) (rest := []) (g_runV C mv_RX8_230 (fun x1 hx1 => m_X8_settles hx1) so_RX8 rfl (by decide) rfl rfl (Nat.le_of_ble_eq_true rfl) dX8_lays_22) (fun h4 => ?_)
      refine g_iinc (pc := 25) C 2 rfl dX8_lays_25 (ki_1 _) (by decide) (lv' := [(2, .int (x2 + (1 : Int32))), (0, .ref (w.2.1 (147))), (1, .int x1)]) rfl ?_
      refine g_goto (pc := 28) (tgt := 2) C dX8_lays_28 (by decide) ?_
      refine g_lv (lv' := [(0, .ref (w.2.1 (147))), (1, .int x1), (2, .int (x2 + (1 : Int32)))]) [1, 2, 0] rfl ?_
      exact ih x1 (x2 + (1 : Int32)) h4
def f_X8_lays (h : TT) (x1 : Int32) : Option TT := f_X8_lays_2 KF x1 (0 : Int32) h
set_option maxRecDepth 20000 in
theorem m_X8_lays {l : Launch} {w : WK} {h : TT} {x1 : Int32} {x : TT} (hx : f_X8_lays h x1 = some x)  : Met l yX8_lays (Cond.code yX8_lays cX8_lays 3 none :: wsG) { frames := 9, cells := 0, slots := 0, locals := 199 } (PG w [.ref (w.2.1 (147)), .int x1] h) (QG w (fV x)) 0 0 (AA w) := by
  refine m_entry (own := RX8) (f := fV) hx (by decide) rfl (Nat.le_of_ble_eq_true rfl) (fun p e s m args below meth c C => ?_)
  show GO p l e _ s m args below meth c w 3 fV (f_X8_lays h x1) 0 [(0, .ref (w.2.1 (147))), (1, .int x1)] [] h
  unfold f_X8_lays
  refine g_iconst (pc := 0) (v := 0) C dX8_lays_0 kc_0 ?_
  refine g_istore_n (pc := 1) C dX8_lays_1 rfl (by decide) (lv' := [(2, .int (0 : Int32)), (0, .ref (w.2.1 (147))), (1, .int x1)]) rfl ?_
  refine g_lv (lv' := [(0, .ref (w.2.1 (147))), (1, .int x1), (2, .int (0 : Int32))]) [1, 2, 0] rfl ?_
  exact j_X8_lays_2 C KF x1 (0 : Int32) h
/-- SnowHouseModel.go(I)I -/
def f_X8_go (h : TT) (x1 : Int32) : Option (Int32 × TT) := (f_X8_in h x1 (0 : Int32) (60 : Int32)).bind fun r1 => (if r1 = 0 then some ((-1 : Int32), h) else if inb (0 : Int32) 4 = true then (if (h.1 160 (0 : Int32).toNatClampNeg) = 0 then some ((-4 : Int32), h) else (f_X8_look h (0 : Int32)).bind fun h5 => (f_X8_v h5 (31 : Int32)).bind fun r6 => (f_X8_all h5).bind fun r7 => (if (r6 + x1) ≤ r7 then (f_X8_lays h5 x1).bind fun h9 => (f_X8_v h9 (31 : Int32)).bind fun r10 => some (r10, h9) else some ((-6 : Int32), h5))) else none)
set_option maxRecDepth 20000 in
theorem m_X8_go {l : Launch} {w : WK} {h : TT} {x1 : Int32} {x : (Int32 × TT)} (hx : f_X8_go h x1 = some x)  : Met l yX8_go (Cond.code yX8_go cX8_go 2 (some .int) :: wsG) { frames := 10, cells := 0, slots := 0, locals := 221 } (PG w [.ref (w.2.1 (147)), .int x1] h) (QG w (fIT x)) 0 0 (AA w) := by
  refine m_entry (own := RX8) (f := fIT) hx (by decide) rfl (Nat.le_of_ble_eq_true rfl) (fun p e s m args below meth c C => ?_)
  show GO p l e _ s m args below meth c w 2 fIT (f_X8_go h x1) 0 [(0, .ref (w.2.1 (147))), (1, .int x1)] [] h
  unfold f_X8_go
  refine g_iload_n (pc := 0) C 1 rfl dX8_go_0 rfl ?_
  refine g_iconst (pc := 1) (v := 0) C dX8_go_1 kc_0 ?_
  refine g_bipush (pc := 2) (v := 60) C dX8_go_2 kb_60 ?_
  refine g_callI (pc := 4) (rest := []) (g_runS C ms_RX8_71 (fun x1 hx1 => m_X8_in hx1) (by decide) rfl rfl (Nat.le_of_ble_eq_true rfl) dX8_go_4) (fun r1 => ?_)
  refine g_if_ne (pc := 7) (tgt := 12) C dX8_go_7 (by decide) (fun hc2 => ?_) (fun hc2 => ?_)
  · refine g_iconst (pc := 10) (v := -1) C dX8_go_10 kc_m1 ?_
    exact g_iretT C dX8_go_11
  · refine g_aload_n (pc := 12) C 0 rfl dX8_go_12 rfl ?_
    refine g_get (pc := 13) C so_RX8 20 fl_RX8_48 (v := .ref (w.2.1 (160))) rfl dX8_go_13 ?_
    refine g_iconst (pc := 16) (v := 0) C dX8_go_16 kc_0 ?_
    refine g_zald (pc := 17) C sz_160 dX8_go_17 (fun hb3 => ?_)
    refine g_if_ne (pc := 18) (tgt := 24) C dX8_go_18 (by decide) (fun hc4 => ?_) (fun hc4 => ?_)
    · refine g_bipush (pc := 21) (v := -4) C dX8_go_21 kb_m4 ?_
      exact g_iretT C dX8_go_23
    · refine g_aload_n (pc := 24) C 0 rfl dX8_go_24 rfl ?_
      refine g_iconst (pc := 25) (v := 0) C dX8_go_25 kc_0 ?_
      refine g_callV (pc := 26) (rest := []) (g_runV C mv_RX8_167 (fun x1 hx1 => m_X8_look hx1) so_RX8 rfl (by decide) rfl rfl (Nat.le_of_ble_eq_true rfl) dX8_go_26) (fun h5 => ?_)
      refine g_aload_n (pc := 29) C 0 rfl dX8_go_29 rfl ?_
      refine g_bipush (pc := 30) (v := 31) C dX8_go_30 kb_31 ?_
      refine g_callI (pc := 32) (rest := []) (g_runV C mv_RX8_154 (fun x1 hx1 => m_X8_v hx1) so_RX8 rfl (by decide) rfl rfl (Nat.le_of_ble_eq_true rfl) dX8_go_32) (fun r6 => ?_)
      refine g_iload_n (pc := 35) C 1 rfl dX8_go_35 rfl ?_
      refine g_iadd (pc := 36) C dX8_go_36 ?_
      refine g_aload_n (pc := 37) C 0 rfl dX8_go_37 rfl ?_
      refine g_callI (pc := 38) (rest := [.int (r6 + x1)]) (g_runV C mv_RX8_178 (fun x1 hx1 => m_X8_all hx1) so_RX8 rfl (by decide) rfl rfl (Nat.le_of_ble_eq_true rfl) dX8_go_38) (fun r7 => ?_)
      refine g_icmp_le (pc := 41) (tgt := 47) C dX8_go_41 (by decide) (fun hc8 => ?_) (fun hc8 => ?_)
      · refine g_aload_n (pc := 47) C 0 rfl dX8_go_47 rfl ?_
        refine g_iload_n (pc := 48) C 1 rfl dX8_go_48 rfl ?_
        refine g_callV (pc := 49) (rest := []) (g_runV C mv_RX8_233 (fun x1 hx1 => m_X8_lays hx1) so_RX8 rfl (by decide) rfl rfl (Nat.le_of_ble_eq_true rfl) dX8_go_49) (fun h9 => ?_)
        refine g_aload_n (pc := 52) C 0 rfl dX8_go_52 rfl ?_
        refine g_bipush (pc := 53) (v := 31) C dX8_go_53 kb_31 ?_
        refine g_callI (pc := 55) (rest := []) (g_runV C mv_RX8_154 (fun x1 hx1 => m_X8_v hx1) so_RX8 rfl (by decide) rfl rfl (Nat.le_of_ble_eq_true rfl) dX8_go_55) (fun r10 => ?_)
        exact g_iretT C dX8_go_58
      · refine g_bipush (pc := 44) (v := -6) C dX8_go_44 kb_m6 ?_
        exact g_iretT C dX8_go_46
/-- SnowHouseModel.kindWas(I)I -/
def f_X8_kindWas (h : TT) (x1 : Int32) : Option Int32 := (f_X8_courseOf h x1).bind fun r1 => (if r1 = 0 then some (1 : Int32) else (f_X8_kindOf h r1).bind fun r3 => (if r3 = (2 : Int32) then some (2 : Int32) else (f_X8_all h).bind fun r5 => (if x1 = (r5 - (1 : Int32)) then (f_X8_size h r1).bind fun r7 => (if r7 = (1 : Int32) then some (4 : Int32) else some (3 : Int32)) else some (3 : Int32))))
set_option maxRecDepth 20000 in
theorem m_X8_kindWas {l : Launch} {w : WK} {h : TT} {x1 : Int32} {x : Int32} (hx : f_X8_kindWas h x1 = some x)  : Met l yX8_kindWas (Cond.code yX8_kindWas cX8_kindWas 3 (some .int) :: wsG) { frames := 4, cells := 0, slots := 0, locals := 85 } (PG w [.ref (w.2.1 (147)), .int x1] h) (QG w ((fI h) x)) 0 0 (AA w) := by
  refine m_entry (own := RX8) (f := (fI h)) hx (by decide) rfl (Nat.le_of_ble_eq_true rfl) (fun p e s m args below meth c C => ?_)
  show GO p l e _ s m args below meth c w 3 (fI h) (f_X8_kindWas h x1) 0 [(0, .ref (w.2.1 (147))), (1, .int x1)] [] h
  unfold f_X8_kindWas
  refine g_aload_n (pc := 0) C 0 rfl dX8_kindWas_0 rfl ?_
  refine g_iload_n (pc := 1) C 1 rfl dX8_kindWas_1 rfl ?_
  refine g_callI (pc := 2) (rest := []) (g_runV C mv_RX8_191 (fun x1 hx1 => m_X8_courseOf hx1) so_RX8 rfl (by decide) rfl rfl (Nat.le_of_ble_eq_true rfl) dX8_kindWas_2) (fun r1 => ?_)
  refine g_istore_n (pc := 5) C dX8_kindWas_5 rfl (by decide) (lv' := [(2, .int r1), (0, .ref (w.2.1 (147))), (1, .int x1)]) rfl ?_
  refine g_iload_n (pc := 6) C 0 rfl dX8_kindWas_6 rfl ?_
  refine g_if_ne (pc := 7) (tgt := 12) C dX8_kindWas_7 (by decide) (fun hc2 => ?_) (fun hc2 => ?_)
  · refine g_iconst (pc := 10) (v := 1) C dX8_kindWas_10 kc_1 ?_
    exact g_iret C dX8_kindWas_11
  · refine g_aload_n (pc := 12) C 1 rfl dX8_kindWas_12 rfl ?_
    refine g_iload_n (pc := 13) C 0 rfl dX8_kindWas_13 rfl ?_
    refine g_callI (pc := 14) (rest := []) (g_runV C mv_RX8_197 (fun x1 hx1 => m_X8_kindOf hx1) so_RX8 rfl (by decide) rfl rfl (Nat.le_of_ble_eq_true rfl) dX8_kindWas_14) (fun r3 => ?_)
    refine g_iconst (pc := 17) (v := 2) C dX8_kindWas_17 kc_2 ?_
    refine g_icmp_ne (pc := 18) (tgt := 25) C dX8_kindWas_18 (by decide) (fun hc4 => ?_) (fun hc4 => ?_)
    · refine g_iconst (pc := 21) (v := 2) C dX8_kindWas_21 kc_2 ?_
      refine g_goto (pc := 22) (tgt := 49) C dX8_kindWas_22 (by decide) ?_
      exact g_iret C dX8_kindWas_49
    · refine g_iload_n (pc := 25) C 2 rfl dX8_kindWas_25 rfl ?_
      refine g_aload_n (pc := 26) C 1 rfl dX8_kindWas_26 rfl ?_
      refine g_callI (pc := 27) (rest := [.int x1]) (g_runV C mv_RX8_178 (fun x1 hx1 => m_X8_all hx1) so_RX8 rfl (by decide) rfl rfl (Nat.le_of_ble_eq_true rfl) dX8_kindWas_27) (fun r5 => ?_)
      refine g_iconst (pc := 30) (v := 1) C dX8_kindWas_30 kc_1 ?_
      refine g_isub (pc := 31) C dX8_kindWas_31 ?_
      refine g_icmp_ne (pc := 32) (tgt := 48) C dX8_kindWas_32 (by decide) (fun hc6 => ?_) (fun hc6 => ?_)
      · refine g_aload_n (pc := 35) C 1 rfl dX8_kindWas_35 rfl ?_
        refine g_iload_n (pc := 36) C 0 rfl dX8_kindWas_36 rfl ?_
        refine g_callI (pc := 37) (rest := []) (g_runV C mv_RX8_157 (fun x1 hx1 => m_X8_size hx1) so_RX8 rfl (by decide) rfl rfl (Nat.le_of_ble_eq_true rfl) dX8_kindWas_37) (fun r7 => ?_)
        refine g_iconst (pc := 40) (v := 1) C dX8_kindWas_40 kc_1 ?_
        refine g_icmp_ne (pc := 41) (tgt := 48) C dX8_kindWas_41 (by decide) (fun hc8 => ?_) (fun hc8 => ?_)
        · refine g_iconst (pc := 44) (v := 4) C dX8_kindWas_44 kc_4 ?_
          refine g_goto (pc := 45) (tgt := 49) C dX8_kindWas_45 (by decide) ?_
          exact g_iret C dX8_kindWas_49
        · refine g_iconst (pc := 48) (v := 3) C dX8_kindWas_48 kc_3 ?_
          exact g_iret C dX8_kindWas_49
      · refine g_iconst (pc := 48) (v := 3) C dX8_kindWas_48 kc_3 ?_
        exact g_iret C dX8_kindWas_49
/-- SnowHouseModel.kind(I)I -/
def f_X8_kind (h : TT) (x1 : Int32) : Option Int32 := (f_X8_hasSlumped h x1).bind fun r1 => (if r1 = 0 then (f_X8_isCut h x1).bind fun r3 => (if r3 = 0 then (f_X8_kindWas h x1).bind fun r5 => some r5 else some (5 : Int32)) else some (6 : Int32))
set_option maxRecDepth 20000 in
theorem m_X8_kind {l : Launch} {w : WK} {h : TT} {x1 : Int32} {x : Int32} (hx : f_X8_kind h x1 = some x)  : Met l yX8_kind (Cond.code yX8_kind cX8_kind 2 (some .int) :: wsG) { frames := 5, cells := 0, slots := 0, locals := 107 } (PG w [.ref (w.2.1 (147)), .int x1] h) (QG w ((fI h) x)) 0 0 (AA w) := by
  refine m_entry (own := RX8) (f := (fI h)) hx (by decide) rfl (Nat.le_of_ble_eq_true rfl) (fun p e s m args below meth c C => ?_)
  show GO p l e _ s m args below meth c w 2 (fI h) (f_X8_kind h x1) 0 [(0, .ref (w.2.1 (147))), (1, .int x1)] [] h
  unfold f_X8_kind
  refine g_aload_n (pc := 0) C 0 rfl dX8_kind_0 rfl ?_
  refine g_iload_n (pc := 1) C 1 rfl dX8_kind_1 rfl ?_
  refine g_callI (pc := 2) (rest := []) (g_runV C mv_RX8_185 (fun x1 hx1 => m_X8_hasSlumped hx1) so_RX8 rfl (by decide) rfl rfl (Nat.le_of_ble_eq_true rfl) dX8_kind_2) (fun r1 => ?_)
  refine g_if_eq (pc := 5) (tgt := 13) C dX8_kind_5 (by decide) (fun hc2 => ?_) (fun hc2 => ?_)
  · refine g_aload_n (pc := 13) C 0 rfl dX8_kind_13 rfl ?_
    refine g_iload_n (pc := 14) C 1 rfl dX8_kind_14 rfl ?_
    refine g_callI (pc := 15) (rest := []) (g_runV C mv_RX8_188 (fun x1 hx1 => m_X8_isCut hx1) so_RX8 rfl (by decide) rfl rfl (Nat.le_of_ble_eq_true rfl) dX8_kind_15) (fun r3 => ?_)
    refine g_if_eq (pc := 18) (tgt := 25) C dX8_kind_18 (by decide) (fun hc4 => ?_) (fun hc4 => ?_)
    · refine g_aload_n (pc := 25) C 0 rfl dX8_kind_25 rfl ?_
      refine g_iload_n (pc := 26) C 1 rfl dX8_kind_26 rfl ?_
      refine g_callI (pc := 27) (rest := []) (g_runV C mv_RX8_236 (fun x1 hx1 => m_X8_kindWas hx1) so_RX8 rfl (by decide) rfl rfl (Nat.le_of_ble_eq_true rfl) dX8_kind_27) (fun r5 => ?_)
      exact g_iret C dX8_kind_30
    · refine g_iconst (pc := 21) (v := 5) C dX8_kind_21 kc_5 ?_
      refine g_goto (pc := 22) (tgt := 30) C dX8_kind_22 (by decide) ?_
      exact g_iret C dX8_kind_30
  · refine g_bipush (pc := 8) (v := 6) C dX8_kind_8 kb_6 ?_
    refine g_goto (pc := 10) (tgt := 30) C dX8_kind_10 (by decide) ?_
    exact g_iret C dX8_kind_30
/-- SnowHouseModel.isBlock(I)Z -/
def f_X8_isBlock (h : TT) (x1 : Int32) : Option (Int32 × TT) := (f_X8_look h (0 : Int32)).bind fun h1 => if inb (0 : Int32) 4 = true then (if (h1.1 160 (0 : Int32).toNatClampNeg) = 0 then some ((0 : Int32), h1) else (f_X8_v h1 (31 : Int32)).bind fun r4 => (f_X8_in h1 x1 (0 : Int32) (r4 - (1 : Int32))).bind fun r5 => (if r5 = 0 then some ((0 : Int32), h1) else some ((1 : Int32), h1))) else none
set_option maxRecDepth 20000 in
theorem m_X8_isBlock {l : Launch} {w : WK} {h : TT} {x1 : Int32} {x : (Int32 × TT)} (hx : f_X8_isBlock h x1 = some x)  : Met l yX8_isBlock (Cond.code yX8_isBlock cX8_isBlock 2 (some .boolean) :: wsG) { frames := 1, cells := 0, slots := 0, locals := 22 } (PG w [.ref (w.2.1 (147)), .int x1] h) (QG w (fIT x)) 0 0 (AA w) := by
  refine m_entry (own := RX8) (f := fIT) hx (by decide) rfl (Nat.le_of_ble_eq_true rfl) (fun p e s m args below meth c C => ?_)
  show GO p l e _ s m args below meth c w 2 fIT (f_X8_isBlock h x1) 0 [(0, .ref (w.2.1 (147))), (1, .int x1)] [] h
  unfold f_X8_isBlock
  refine g_aload_n (pc := 0) C 0 rfl dX8_isBlock_0 rfl ?_
  refine g_iconst (pc := 1) (v := 0) C dX8_isBlock_1 kc_0 ?_
  refine g_callV (pc := 2) (rest := []) (g_runV C mv_RX8_167 (fun x1 hx1 => m_X8_look hx1) so_RX8 rfl (by decide) rfl rfl (Nat.le_of_ble_eq_true rfl) dX8_isBlock_2) (fun h1 => ?_)
  refine g_aload_n (pc := 5) C 0 rfl dX8_isBlock_5 rfl ?_
  refine g_get (pc := 6) C so_RX8 20 fl_RX8_48 (v := .ref (w.2.1 (160))) rfl dX8_isBlock_6 ?_
  refine g_iconst (pc := 9) (v := 0) C dX8_isBlock_9 kc_0 ?_
  refine g_zald (pc := 10) C sz_160 dX8_isBlock_10 (fun hb2 => ?_)
  refine g_if_eq (pc := 11) (tgt := 34) C dX8_isBlock_11 (by decide) (fun hc3 => ?_) (fun hc3 => ?_)
  · refine g_iconst (pc := 34) (v := 0) C dX8_isBlock_34 kc_0 ?_
    exact g_zretT C dX8_isBlock_35 rfl
  · refine g_iload_n (pc := 14) C 1 rfl dX8_isBlock_14 rfl ?_
    refine g_iconst (pc := 15) (v := 0) C dX8_isBlock_15 kc_0 ?_
    refine g_aload_n (pc := 16) C 0 rfl dX8_isBlock_16 rfl ?_
    refine g_bipush (pc := 17) (v := 31) C dX8_isBlock_17 kb_31 ?_
    refine g_callI (pc := 19) (rest := [.int (0 : Int32), .int x1]) (g_runV C mv_RX8_154 (fun x1 hx1 => m_X8_v hx1) so_RX8 rfl (by decide) rfl rfl (Nat.le_of_ble_eq_true rfl) dX8_isBlock_19) (fun r4 => ?_)
    refine g_iconst (pc := 22) (v := 1) C dX8_isBlock_22 kc_1 ?_
    refine g_isub (pc := 23) C dX8_isBlock_23 ?_
    refine g_callI (pc := 24) (rest := []) (g_runS C ms_RX8_71 (fun x1 hx1 => m_X8_in hx1) (by decide) rfl rfl (Nat.le_of_ble_eq_true rfl) dX8_isBlock_24) (fun r5 => ?_)
    refine g_if_eq (pc := 27) (tgt := 34) C dX8_isBlock_27 (by decide) (fun hc6 => ?_) (fun hc6 => ?_)
    · refine g_iconst (pc := 34) (v := 0) C dX8_isBlock_34 kc_0 ?_
      exact g_zretT C dX8_isBlock_35 rfl
    · refine g_iconst (pc := 30) (v := 1) C dX8_isBlock_30 kc_1 ?_
      refine g_goto (pc := 31) (tgt := 35) C dX8_isBlock_31 (by decide) ?_
      exact g_zretT C dX8_isBlock_35 rfl
/-- SnowHouseModel.blockTells(II)I -/
def f_X8_blockTells (h : TT) (x1 : Int32) (x2 : Int32) : Option Int32 := (if x2 = (0 : Int32) then (f_X8_kind h x1).bind fun r2 => some r2 else (if x2 = (1 : Int32) then (f_X8_courseOf h x1).bind fun r4 => some r4 else (if x2 = (2 : Int32) then (f_X8_courseOf h x1).bind fun r6 => (f_X8_start h r6).bind fun r7 => some (x1 - r7) else (if x2 = (3 : Int32) then (f_X8_restsOn h x1).bind fun r9 => some r9 else (f_X8_v h ((32 : Int32) + x1)).bind fun r10 => some r10))))
set_option maxRecDepth 20000 in
theorem m_X8_blockTells {l : Launch} {w : WK} {h : TT} {x1 : Int32} {x2 : Int32} {x : Int32} (hx : f_X8_blockTells h x1 x2 = some x)  : Met l yX8_blockTells (Cond.code yX8_blockTells cX8_blockTells 3 (some .int) :: wsG) { frames := 6, cells := 0, slots := 0, locals := 128 } (PG w [.ref (w.2.1 (147)), .int x1, .int x2] h) (QG w ((fI h) x)) 0 0 (AA w) := by
  refine m_entry (own := RX8) (f := (fI h)) hx (by decide) rfl (Nat.le_of_ble_eq_true rfl) (fun p e s m args below meth c C => ?_)
  show GO p l e _ s m args below meth c w 3 (fI h) (f_X8_blockTells h x1 x2) 0 [(0, .ref (w.2.1 (147))), (1, .int x1), (2, .int x2)] [] h
  unfold f_X8_blockTells
  refine g_iload_n (pc := 0) C 2 rfl dX8_blockTells_0 rfl ?_
  refine g_ite (fun hc1 => ?_) (fun hc1 => ?_)
  · refine g_tabIn (pc := 1) (tgt := 32) C dX8_blockTells_1 hc1 (by decide) (by decide) rfl (by decide) ?_
    refine g_aload_n (pc := 32) C 0 rfl dX8_blockTells_32 rfl ?_
    refine g_iload_n (pc := 33) C 1 rfl dX8_blockTells_33 rfl ?_
    refine g_callI (pc := 34) (rest := []) (g_runV C mv_RX8_239 (fun x1 hx1 => m_X8_kind hx1) so_RX8 rfl (by decide) rfl rfl (Nat.le_of_ble_eq_true rfl) dX8_blockTells_34) (fun r2 => ?_)
    exact g_iret C dX8_blockTells_37
  refine g_ite (fun hc3 => ?_) (fun hc3 => ?_)
  · refine g_tabIn (pc := 1) (tgt := 38) C dX8_blockTells_1 hc3 (by decide) (by decide) rfl (by decide) ?_
    refine g_aload_n (pc := 38) C 0 rfl dX8_blockTells_38 rfl ?_
    refine g_iload_n (pc := 39) C 1 rfl dX8_blockTells_39 rfl ?_
    refine g_callI (pc := 40) (rest := []) (g_runV C mv_RX8_191 (fun x1 hx1 => m_X8_courseOf hx1) so_RX8 rfl (by decide) rfl rfl (Nat.le_of_ble_eq_true rfl) dX8_blockTells_40) (fun r4 => ?_)
    exact g_iret C dX8_blockTells_43
  refine g_ite (fun hc5 => ?_) (fun hc5 => ?_)
  · refine g_tabIn (pc := 1) (tgt := 44) C dX8_blockTells_1 hc5 (by decide) (by decide) rfl (by decide) ?_
    refine g_iload_n (pc := 44) C 1 rfl dX8_blockTells_44 rfl ?_
    refine g_aload_n (pc := 45) C 0 rfl dX8_blockTells_45 rfl ?_
    refine g_aload_n (pc := 46) C 0 rfl dX8_blockTells_46 rfl ?_
    refine g_iload_n (pc := 47) C 1 rfl dX8_blockTells_47 rfl ?_
    refine g_callI (pc := 48) (rest := [.ref (w.2.1 (147)), .int x1]) (g_runV C mv_RX8_191 (fun x1 hx1 => m_X8_courseOf hx1) so_RX8 rfl (by decide) rfl rfl (Nat.le_of_ble_eq_true rfl) dX8_blockTells_48) (fun r6 => ?_)
    refine g_callI (pc := 51) (rest := [.int x1]) (g_runV C mv_RX8_160 (fun x1 hx1 => m_X8_start hx1) so_RX8 rfl (by decide) rfl rfl (Nat.le_of_ble_eq_true rfl) dX8_blockTells_51) (fun r7 => ?_)
    refine g_isub (pc := 54) C dX8_blockTells_54 ?_
    exact g_iret C dX8_blockTells_55
  refine g_ite (fun hc8 => ?_) (fun hc8 => ?_)
  · refine g_tabIn (pc := 1) (tgt := 56) C dX8_blockTells_1 hc8 (by decide) (by decide) rfl (by decide) ?_
    refine g_aload_n (pc := 56) C 0 rfl dX8_blockTells_56 rfl ?_
    refine g_iload_n (pc := 57) C 1 rfl dX8_blockTells_57 rfl ?_
    refine g_callI (pc := 58) (rest := []) (g_runV C mv_RX8_194 (fun x1 hx1 => m_X8_restsOn hx1) so_RX8 rfl (by decide) rfl rfl (Nat.le_of_ble_eq_true rfl) dX8_blockTells_58) (fun r9 => ?_)
    exact g_iret C dX8_blockTells_61
  refine g_tabOut (pc := 1) (tgt := 62) C dX8_blockTells_1 (tab_out (by decide) (by decide) (fun j h1 h2 => ?_)) (by decide) ?_
  · rcases tab_0_3 h1 h2 with e | e | e | e <;> subst e <;> assumption
  · refine g_aload_n (pc := 62) C 0 rfl dX8_blockTells_62 rfl ?_
    refine g_bipush (pc := 63) (v := 32) C dX8_blockTells_63 kb_32 ?_
    refine g_iload_n (pc := 65) C 1 rfl dX8_blockTells_65 rfl ?_
    refine g_iadd (pc := 66) C dX8_blockTells_66 ?_
    refine g_callI (pc := 67) (rest := []) (g_runV C mv_RX8_154 (fun x1 hx1 => m_X8_v hx1) so_RX8 rfl (by decide) rfl rfl (Nat.le_of_ble_eq_true rfl) dX8_blockTells_67) (fun r10 => ?_)
    exact g_iret C dX8_blockTells_70
/-- SnowHouseModel.block(II)I -/
def f_X8_block (h : TT) (x1 : Int32) (x2 : Int32) : Option (Int32 × TT) := (f_X8_isBlock h x1).bind fun q1 => (if q1.1 = 0 then some ((-1 : Int32), q1.2) else (f_X8_in q1.2 x2 (0 : Int32) (4 : Int32)).bind fun r3 => (if r3 = 0 then some ((-1 : Int32), q1.2) else (f_X8_blockTells q1.2 x1 x2).bind fun r5 => (f_X8_tellsBy q1.2 r5 (1 : Int32)).bind fun q6 => some (q6.1, q6.2)))
set_option maxRecDepth 20000 in
theorem m_X8_block {l : Launch} {w : WK} {h : TT} {x1 : Int32} {x2 : Int32} {x : (Int32 × TT)} (hx : f_X8_block h x1 x2 = some x)  : Met l yX8_block (Cond.code yX8_block cX8_block 3 (some .int) :: wsG) { frames := 7, cells := 0, slots := 0, locals := 150 } (PG w [.ref (w.2.1 (147)), .int x1, .int x2] h) (QG w (fIT x)) 0 0 (AA w) := by
  refine m_entry (own := RX8) (f := fIT) hx (by decide) rfl (Nat.le_of_ble_eq_true rfl) (fun p e s m args below meth c C => ?_)
  show GO p l e _ s m args below meth c w 3 fIT (f_X8_block h x1 x2) 0 [(0, .ref (w.2.1 (147))), (1, .int x1), (2, .int x2)] [] h
  unfold f_X8_block
  refine g_aload_n (pc := 0) C 0 rfl dX8_block_0 rfl ?_
  refine g_iload_n (pc := 1) C 1 rfl dX8_block_1 rfl ?_
  refine g_callIT (pc := 2) (rest := []) (g_runV C mv_RX8_242 (fun x1 hx1 => m_X8_isBlock hx1) so_RX8 rfl (by decide) rfl rfl (Nat.le_of_ble_eq_true rfl) dX8_block_2) (fun q1 => ?_)
  refine g_if_eq (pc := 5) (tgt := 31) C dX8_block_5 (by decide) (fun hc2 => ?_) (fun hc2 => ?_)
  · refine g_iconst (pc := 31) (v := -1) C dX8_block_31 kc_m1 ?_
    exact g_iretT C dX8_block_32
  · refine g_iload_n (pc := 8) C 2 rfl dX8_block_8 rfl ?_
    refine g_iconst (pc := 9) (v := 0) C dX8_block_9 kc_0 ?_
    refine g_iconst (pc := 10) (v := 4) C dX8_block_10 kc_4 ?_
    refine g_callI (pc := 11) (rest := []) (g_runS C ms_RX8_71 (fun x1 hx1 => m_X8_in hx1) (by decide) rfl rfl (Nat.le_of_ble_eq_true rfl) dX8_block_11) (fun r3 => ?_)
    refine g_if_eq (pc := 14) (tgt := 31) C dX8_block_14 (by decide) (fun hc4 => ?_) (fun hc4 => ?_)
    · refine g_iconst (pc := 31) (v := -1) C dX8_block_31 kc_m1 ?_
      exact g_iretT C dX8_block_32
    · refine g_aload_n (pc := 17) C 0 rfl dX8_block_17 rfl ?_
      refine g_aload_n (pc := 18) C 0 rfl dX8_block_18 rfl ?_
      refine g_iload_n (pc := 19) C 1 rfl dX8_block_19 rfl ?_
      refine g_iload_n (pc := 20) C 2 rfl dX8_block_20 rfl ?_
      refine g_callI (pc := 21) (rest := [.ref (w.2.1 (147))]) (g_runV C mv_RX8_245 (fun x1 hx1 => m_X8_blockTells hx1) so_RX8 rfl (by decide) rfl rfl (Nat.le_of_ble_eq_true rfl) dX8_block_21) (fun r5 => ?_)
      refine g_iconst (pc := 24) (v := 1) C dX8_block_24 kc_1 ?_
      refine g_callIT (pc := 25) (rest := []) (g_runV C mv_RX8_93 (fun x1 hx1 => m_X8_tellsBy hx1) so_RX8 rfl (by decide) rfl rfl (Nat.le_of_ble_eq_true rfl) dX8_block_25) (fun q6 => ?_)
      refine g_goto (pc := 28) (tgt := 32) C dX8_block_28 (by decide) ?_
      exact g_iretT C dX8_block_32
/-- SnowHouseModel.pull(I)I -/
def f_X8_pull (h : TT) (x1 : Int32) : Option (Int32 × TT) := (f_X8_isBlock h x1).bind fun q1 => (if q1.1 = 0 then some ((-1 : Int32), q1.2) else (f_X8_holdOf q1.2 x1).bind fun r3 => (f_X8_pullOf q1.2 x1).bind fun r4 => (f_X8_tellsBy q1.2 r3 r4).bind fun q5 => some (q5.1, q5.2))
set_option maxRecDepth 20000 in
theorem m_X8_pull {l : Launch} {w : WK} {h : TT} {x1 : Int32} {x : (Int32 × TT)} (hx : f_X8_pull h x1 = some x)  : Met l yX8_pull (Cond.code yX8_pull cX8_pull 2 (some .int) :: wsG) { frames := 7, cells := 0, slots := 0, locals := 156 } (PG w [.ref (w.2.1 (147)), .int x1] h) (QG w (fIT x)) 0 0 (AA w) := by
  refine m_entry (own := RX8) (f := fIT) hx (by decide) rfl (Nat.le_of_ble_eq_true rfl) (fun p e s m args below meth c C => ?_)
  show GO p l e _ s m args below meth c w 2 fIT (f_X8_pull h x1) 0 [(0, .ref (w.2.1 (147))), (1, .int x1)] [] h
  unfold f_X8_pull
  refine g_aload_n (pc := 0) C 0 rfl dX8_pull_0 rfl ?_
  refine g_iload_n (pc := 1) C 1 rfl dX8_pull_1 rfl ?_
  refine g_callIT (pc := 2) (rest := []) (g_runV C mv_RX8_242 (fun x1 hx1 => m_X8_isBlock hx1) so_RX8 rfl (by decide) rfl rfl (Nat.le_of_ble_eq_true rfl) dX8_pull_2) (fun q1 => ?_)
  refine g_if_eq (pc := 5) (tgt := 25) C dX8_pull_5 (by decide) (fun hc2 => ?_) (fun hc2 => ?_)
  · refine g_iconst (pc := 25) (v := -1) C dX8_pull_25 kc_m1 ?_
    exact g_iretT C dX8_pull_26
  · refine g_aload_n (pc := 8) C 0 rfl dX8_pull_8 rfl ?_
    refine g_aload_n (pc := 9) C 0 rfl dX8_pull_9 rfl ?_
    refine g_iload_n (pc := 10) C 1 rfl dX8_pull_10 rfl ?_
    refine g_callI (pc := 11) (rest := [.ref (w.2.1 (147))]) (g_runV C mv_RX8_224 (fun x1 hx1 => m_X8_holdOf hx1) so_RX8 rfl (by decide) rfl rfl (Nat.le_of_ble_eq_true rfl) dX8_pull_11) (fun r3 => ?_)
    refine g_aload_n (pc := 14) C 0 rfl dX8_pull_14 rfl ?_
    refine g_iload_n (pc := 15) C 1 rfl dX8_pull_15 rfl ?_
    refine g_callI (pc := 16) (rest := [.int r3, .ref (w.2.1 (147))]) (g_runV C mv_RX8_221 (fun x1 hx1 => m_X8_pullOf hx1) so_RX8 rfl (by decide) rfl rfl (Nat.le_of_ble_eq_true rfl) dX8_pull_16) (fun r4 => ?_)
    refine g_callIT (pc := 19) (rest := []) (g_runV C mv_RX8_93 (fun x1 hx1 => m_X8_tellsBy hx1) so_RX8 rfl (by decide) rfl rfl (Nat.le_of_ble_eq_true rfl) dX8_pull_19) (fun q5 => ?_)
    refine g_goto (pc := 22) (tgt := 26) C dX8_pull_22 (by decide) ?_
    exact g_iretT C dX8_pull_26
/-- SnowHouseModel.mark(II)I -/
def f_X8_mark_57   (x1 : Int32) (x2 : Int32) (h : TT) : Option (Int32 × TT) := (if x2 = (1 : Int32) then some (x1, h) else (if x2 = (2 : Int32) then some (x1 - (1 : Int32), h) else (if x2 = (3 : Int32) then (f_X8_courseOf h x1).bind fun r10 => (f_X8_lean0 h r10).bind fun r11 => some (r11, h) else (if x2 = (4 : Int32) then (f_X8_restsOn h x1).bind fun r13 => (f_X8_restsToo h x1).bind fun r14 => (if r13 = r14 then some ((1 : Int32), h) else some ((2 : Int32), h)) else (if x2 = (5 : Int32) then (f_X8_above h x1).bind fun r17 => some (r17, h) else (f_X8_kindWas h x1).bind fun r18 => some (r18, h))))))
set_option maxRecDepth 20000 in
theorem j_X8_mark_57 {p : Program} {l : Launch} {e : Env} {R : Room} {s : State} {m : MethodId} {args : Array Value} {below : List Frame} {meth : Method} {c : Code} {w : WK} (C : CX p R s m args meth c w RX8 cX8_mark 4 (some .int) 6 134)     (x1 : Int32) (x2 : Int32)  (h : TT) : GO p l e R s m args below meth c w 4 fIT (f_X8_mark_57 x1 x2 h) 57 [(0, .ref (w.2.1 (147))), (1, .int x1), (2, .int x2)] [] h := by
  unfold f_X8_mark_57
  refine g_iload_n (pc := 57) C 2 rfl dX8_mark_57 rfl ?_
  refine g_ite (fun hc7 => ?_) (fun hc7 => ?_)
  · refine g_tabIn (pc := 58) (tgt := 92) C dX8_mark_58 hc7 (by decide) (by decide) rfl (by decide) ?_
    refine g_iload_n (pc := 92) C 1 rfl dX8_mark_92 rfl ?_
    exact g_iretT C dX8_mark_93
  refine g_ite (fun hc8 => ?_) (fun hc8 => ?_)
  · refine g_tabIn (pc := 58) (tgt := 94) C dX8_mark_58 hc8 (by decide) (by decide) rfl (by decide) ?_
    refine g_iload_n (pc := 94) C 1 rfl dX8_mark_94 rfl ?_
    refine g_iconst (pc := 95) (v := 1) C dX8_mark_95 kc_1 ?_
    refine g_isub (pc := 96) C dX8_mark_96 ?_
    exact g_iretT C dX8_mark_97
  refine g_ite (fun hc9 => ?_) (fun hc9 => ?_)
  · refine g_tabIn (pc := 58) (tgt := 98) C dX8_mark_58 hc9 (by decide) (by decide) rfl (by decide) ?_
    refine g_aload_n (pc := 98) C 0 rfl dX8_mark_98 rfl ?_
    refine g_aload_n (pc := 99) C 0 rfl dX8_mark_99 rfl ?_
    refine g_iload_n (pc := 100) C 1 rfl dX8_mark_100 rfl ?_
    refine g_callI (pc := 101) (rest := [.ref (w.2.1 (147))]) (g_runV C mv_RX8_191 (fun x1 hx1 => m_X8_courseOf hx1) so_RX8 rfl (by decide) rfl rfl (Nat.le_of_ble_eq_true rfl) dX8_mark_101) (fun r10 => ?_)
    refine g_callI (pc := 104) (rest := []) (g_runV C mv_RX8_215 (fun x1 hx1 => m_X8_lean0 hx1) so_RX8 rfl (by decide) rfl rfl (Nat.le_of_ble_eq_true rfl) dX8_mark_104) (fun r11 => ?_)
    exact g_iretT C dX8_mark_107
  refine g_ite (fun hc12 => ?_) (fun hc12 => ?_)
  · refine g_tabIn (pc := 58) (tgt := 108) C dX8_mark_58 hc12 (by decide) (by decide) rfl (by decide) ?_
    refine g_aload_n (pc := 108) C 0 rfl dX8_mark_108 rfl ?_
    refine g_iload_n (pc := 109) C 1 rfl dX8_mark_109 rfl ?_
    refine g_callI (pc := 110) (rest := []) (g_runV C mv_RX8_194 (fun x1 hx1 => m_X8_restsOn hx1) so_RX8 rfl (by decide) rfl rfl (Nat.le_of_ble_eq_true rfl) dX8_mark_110) (fun r13 => ?_)
    refine g_aload_n (pc := 113) C 0 rfl dX8_mark_113 rfl ?_
    refine g_iload_n (pc := 114) C 1 rfl dX8_mark_114 rfl ?_
    refine g_callI (pc := 115) (rest := [.int r13]) (g_runV C mv_RX8_212 (fun x1 hx1 => m_X8_restsToo hx1) so_RX8 rfl (by decide) rfl rfl (Nat.le_of_ble_eq_true rfl) dX8_mark_115) (fun r14 => ?_)
    refine g_icmp_ne (pc := 118) (tgt := 125) C dX8_mark_118 (by decide) (fun hc15 => ?_) (fun hc15 => ?_)
    · refine g_iconst (pc := 121) (v := 1) C dX8_mark_121 kc_1 ?_
      refine g_goto (pc := 122) (tgt := 126) C dX8_mark_122 (by decide) ?_
      exact g_iretT C dX8_mark_126
    · refine g_iconst (pc := 125) (v := 2) C dX8_mark_125 kc_2 ?_
      exact g_iretT C dX8_mark_126
  refine g_ite (fun hc16 => ?_) (fun hc16 => ?_)
  · refine g_tabIn (pc := 58) (tgt := 127) C dX8_mark_58 hc16 (by decide) (by decide) rfl (by decide) ?_
    refine g_aload_n (pc := 127) C 0 rfl dX8_mark_127 rfl ?_
    refine g_iload_n (pc := 128) C 1 rfl dX8_mark_128 rfl ?_
    refine g_callI (pc := 129) (rest := []) (g_runV C mv_RX8_218 (fun x1 hx1 => m_X8_above hx1) so_RX8 rfl (by decide) rfl rfl (Nat.le_of_ble_eq_true rfl) dX8_mark_129) (fun r17 => ?_)
    exact g_iretT C dX8_mark_132
  refine g_tabOut (pc := 58) (tgt := 133) C dX8_mark_58 (tab_out (by decide) (by decide) (fun j h1 h2 => ?_)) (by decide) ?_
  · rcases tab_1_5 h1 h2 with e | e | e | e | e <;> subst e <;> assumption
  · refine g_aload_n (pc := 133) C 0 rfl dX8_mark_133 rfl ?_
    refine g_iload_n (pc := 134) C 1 rfl dX8_mark_134 rfl ?_
    refine g_callI (pc := 135) (rest := []) (g_runV C mv_RX8_236 (fun x1 hx1 => m_X8_kindWas hx1) so_RX8 rfl (by decide) rfl rfl (Nat.le_of_ble_eq_true rfl) dX8_mark_135) (fun r18 => ?_)
    exact g_iretT C dX8_mark_138
def f_X8_mark_51    (h : TT) : Option (Int32 × TT) := (f_X8_meets h (3 : Int32)).bind fun q23 => some (q23.1, q23.2)
set_option maxRecDepth 20000 in
theorem j_X8_mark_51 {p : Program} {l : Launch} {e : Env} {R : Room} {s : State} {m : MethodId} {args : Array Value} {below : List Frame} {meth : Method} {c : Code} {w : WK} (C : CX p R s m args meth c w RX8 cX8_mark 4 (some .int) 6 134)       (h : TT) : GO p l e R s m args below meth c w 4 fIT (f_X8_mark_51 h) 51 [(0, .ref (w.2.1 (147)))] [] h := by
  unfold f_X8_mark_51
  refine g_aload_n (pc := 51) C 0 rfl dX8_mark_51 rfl ?_
  refine g_iconst (pc := 52) (v := 3) C dX8_mark_52 kc_3 ?_
  refine g_callIT (pc := 53) (rest := []) (g_runV C mv_RX8_85 (fun x1 hx1 => m_X8_meets hx1) so_RX8 rfl (by decide) rfl rfl (Nat.le_of_ble_eq_true rfl) dX8_mark_53) (fun q23 => ?_)
  exact g_iretT C dX8_mark_56
def f_X8_mark_41   (x1 : Int32) (x2 : Int32) (x3 : Int32) (h : TT) : Option (Int32 × TT) := (if x2 = (3 : Int32) then (if x3 = (4 : Int32) then f_X8_mark_57 x1 x2 h else f_X8_mark_51 h) else f_X8_mark_51 h)
set_option maxRecDepth 20000 in
theorem j_X8_mark_41 {p : Program} {l : Launch} {e : Env} {R : Room} {s : State} {m : MethodId} {args : Array Value} {below : List Frame} {meth : Method} {c : Code} {w : WK} (C : CX p R s m args meth c w RX8 cX8_mark 4 (some .int) 6 134)     (x1 : Int32) (x2 : Int32) (x3 : Int32)  (h : TT) : GO p l e R s m args below meth c w 4 fIT (f_X8_mark_41 x1 x2 x3 h) 41 [(0, .ref (w.2.1 (147))), (1, .int x1), (2, .int x2), (3, .int x3)] [] h := by
  unfold f_X8_mark_41
  refine g_iload_n (pc := 41) C 2 rfl dX8_mark_41 rfl ?_
  refine g_iconst (pc := 42) (v := 3) C dX8_mark_42 kc_3 ?_
  refine g_icmp_ne (pc := 43) (tgt := 51) C dX8_mark_43 (by decide) (fun hc21 => ?_) (fun hc21 => ?_)
  · refine g_iload_n (pc := 46) C 3 rfl dX8_mark_46 rfl ?_
    refine g_iconst (pc := 47) (v := 4) C dX8_mark_47 kc_4 ?_
    refine g_icmp_eq (pc := 48) (tgt := 57) C dX8_mark_48 (by decide) (fun hc22 => ?_) (fun hc22 => ?_)
    · refine g_lv (lv' := [(0, .ref (w.2.1 (147))), (1, .int x1), (2, .int x2)]) [0, 1, 2] rfl ?_
      exact j_X8_mark_57 C x1 x2 h
    · refine g_lv (lv' := [(0, .ref (w.2.1 (147)))]) [0] rfl ?_
      exact j_X8_mark_51 C h
  · refine g_lv (lv' := [(0, .ref (w.2.1 (147)))]) [0] rfl ?_
    exact j_X8_mark_51 C h
def f_X8_mark (h : TT) (x1 : Int32) (x2 : Int32) : Option (Int32 × TT) := (f_X8_isBlock h x1).bind fun q1 => (if q1.1 = 0 then some ((-1 : Int32), q1.2) else (f_X8_in q1.2 x2 (1 : Int32) (6 : Int32)).bind fun r3 => (if r3 = 0 then some ((-1 : Int32), q1.2) else (f_X8_kind q1.2 x1).bind fun r5 => (if r5 = x2 then f_X8_mark_57 x1 x2 q1.2 else (if x2 = (1 : Int32) then (if r5 = (5 : Int32) then f_X8_mark_57 x1 x2 q1.2 else f_X8_mark_41 x1 x2 r5 q1.2) else f_X8_mark_41 x1 x2 r5 q1.2))))
set_option maxRecDepth 20000 in
theorem m_X8_mark {l : Launch} {w : WK} {h : TT} {x1 : Int32} {x2 : Int32} {x : (Int32 × TT)} (hx : f_X8_mark h x1 x2 = some x)  : Met l yX8_mark (Cond.code yX8_mark cX8_mark 4 (some .int) :: wsG) { frames := 6, cells := 0, slots := 0, locals := 134 } (PG w [.ref (w.2.1 (147)), .int x1, .int x2] h) (QG w (fIT x)) 0 0 (AA w) := by
  refine m_entry (own := RX8) (f := fIT) hx (by decide) rfl (Nat.le_of_ble_eq_true rfl) (fun p e s m args below meth c C => ?_)
  show GO p l e _ s m args below meth c w 4 fIT (f_X8_mark h x1 x2) 0 [(0, .ref (w.2.1 (147))), (1, .int x1), (2, .int x2)] [] h
  unfold f_X8_mark
  refine g_aload_n (pc := 0) C 0 rfl dX8_mark_0 rfl ?_
  refine g_iload_n (pc := 1) C 1 rfl dX8_mark_1 rfl ?_
  refine g_callIT (pc := 2) (rest := []) (g_runV C mv_RX8_242 (fun x1 hx1 => m_X8_isBlock hx1) so_RX8 rfl (by decide) rfl rfl (Nat.le_of_ble_eq_true rfl) dX8_mark_2) (fun q1 => ?_)
  refine g_if_eq (pc := 5) (tgt := 18) C dX8_mark_5 (by decide) (fun hc2 => ?_) (fun hc2 => ?_)
  · refine g_iconst (pc := 18) (v := -1) C dX8_mark_18 kc_m1 ?_
    exact g_iretT C dX8_mark_19
  · refine g_iload_n (pc := 8) C 2 rfl dX8_mark_8 rfl ?_
    refine g_iconst (pc := 9) (v := 1) C dX8_mark_9 kc_1 ?_
    refine g_bipush (pc := 10) (v := 6) C dX8_mark_10 kb_6 ?_
    refine g_callI (pc := 12) (rest := []) (g_runS C ms_RX8_71 (fun x1 hx1 => m_X8_in hx1) (by decide) rfl rfl (Nat.le_of_ble_eq_true rfl) dX8_mark_12) (fun r3 => ?_)
    refine g_if_ne (pc := 15) (tgt := 20) C dX8_mark_15 (by decide) (fun hc4 => ?_) (fun hc4 => ?_)
    · refine g_iconst (pc := 18) (v := -1) C dX8_mark_18 kc_m1 ?_
      exact g_iretT C dX8_mark_19
    · refine g_aload_n (pc := 20) C 0 rfl dX8_mark_20 rfl ?_
      refine g_iload_n (pc := 21) C 1 rfl dX8_mark_21 rfl ?_
      refine g_callI (pc := 22) (rest := []) (g_runV C mv_RX8_239 (fun x1 hx1 => m_X8_kind hx1) so_RX8 rfl (by decide) rfl rfl (Nat.le_of_ble_eq_true rfl) dX8_mark_22) (fun r5 => ?_)
      refine g_istore_n (pc := 25) C dX8_mark_25 rfl (by decide) (lv' := [(3, .int r5), (0, .ref (w.2.1 (147))), (1, .int x1), (2, .int x2)]) rfl ?_
      refine g_iload_n (pc := 26) C 0 rfl dX8_mark_26 rfl ?_
      refine g_iload_n (pc := 27) C 3 rfl dX8_mark_27 rfl ?_
      refine g_icmp_eq (pc := 28) (tgt := 57) C dX8_mark_28 (by decide) (fun hc6 => ?_) (fun hc6 => ?_)
      · refine g_lv (lv' := [(0, .ref (w.2.1 (147))), (1, .int x1), (2, .int x2)]) [1, 2, 3] rfl ?_
        exact j_X8_mark_57 C x1 x2 q1.2
      · refine g_iload_n (pc := 31) C 3 rfl dX8_mark_31 rfl ?_
        refine g_iconst (pc := 32) (v := 1) C dX8_mark_32 kc_1 ?_
        refine g_icmp_ne (pc := 33) (tgt := 41) C dX8_mark_33 (by decide) (fun hc19 => ?_) (fun hc19 => ?_)
        · refine g_iload_n (pc := 36) C 0 rfl dX8_mark_36 rfl ?_
          refine g_iconst (pc := 37) (v := 5) C dX8_mark_37 kc_5 ?_
          refine g_icmp_eq (pc := 38) (tgt := 57) C dX8_mark_38 (by decide) (fun hc20 => ?_) (fun hc20 => ?_)
          · refine g_lv (lv' := [(0, .ref (w.2.1 (147))), (1, .int x1), (2, .int x2)]) [1, 2, 3] rfl ?_
            exact j_X8_mark_57 C x1 x2 q1.2
          · refine g_lv (lv' := [(0, .ref (w.2.1 (147))), (1, .int x1), (2, .int x2), (3, .int r5)]) [1, 2, 3, 0] rfl ?_
            exact j_X8_mark_41 C x1 x2 r5 q1.2
        · refine g_lv (lv' := [(0, .ref (w.2.1 (147))), (1, .int x1), (2, .int x2), (3, .int r5)]) [1, 2, 3, 0] rfl ?_
          exact j_X8_mark_41 C x1 x2 r5 q1.2
/-- SnowHouseModel.slumpedMany()I -/
def f_X8_slumpedMany_28 (h : TT)  (k4 : Int32 → Int32 → Option Int32) (x2 : Int32) (xs0 : Int32) (xs1 : Int32) : Option Int32 := nm (xs1 + xs0) fun y5 => k4 y5 (x2 + (1 : Int32))
set_option maxRecDepth 20000 in
theorem j_X8_slumpedMany_28 {p : Program} {l : Launch} {e : Env} {R : Room} {s : State} {m : MethodId} {args : Array Value} {below : List Frame} {meth : Method} {c : Code} {w : WK} (C : CX p R s m args meth c w RX8 cX8_slumpedMany 3 (some .int) 2 42) (h : TT)   {k4 : Int32 → Int32 → Option Int32} (hk4 : ∀ (x1 : Int32) (x2 : Int32) , GO p l e R s m args below meth c w 3 (fI h) (k4 x1 x2) 4 [(0, .ref (w.2.1 (147))), (1, .int x1), (2, .int x2)] [] h) (x2 : Int32) (xs0 : Int32) (xs1 : Int32)  : GO p l e R s m args below meth c w 3 (fI h) (f_X8_slumpedMany_28 h k4 x2 xs0 xs1) 28 [(0, .ref (w.2.1 (147))), (2, .int x2)] [.int xs0, .int xs1] h := by
  unfold f_X8_slumpedMany_28
  refine g_iadd (pc := 28) C dX8_slumpedMany_28 ?_
  refine g_nmi (fun y5 => ?_)
  refine g_istore_n (pc := 29) C dX8_slumpedMany_29 rfl (by decide) (lv' := [(1, .int y5), (0, .ref (w.2.1 (147))), (2, .int x2)]) rfl ?_
  refine g_iinc (pc := 30) C 2 rfl dX8_slumpedMany_30 (ki_1 _) (by decide) (lv' := [(2, .int (x2 + (1 : Int32))), (1, .int y5), (0, .ref (w.2.1 (147)))]) rfl ?_
  refine g_goto (pc := 33) (tgt := 4) C dX8_slumpedMany_33 (by decide) ?_
  refine g_lv (lv' := [(0, .ref (w.2.1 (147))), (1, .int y5), (2, .int (x2 + (1 : Int32)))]) [2, 1, 0] rfl ?_
  exact hk4 y5 (x2 + (1 : Int32))
def f_X8_slumpedMany_4 (h : TT)   : Nat → Int32 → Int32 → Option Int32
  | 0, _, _ => none
  | n + 1, x1, x2 => (f_X8_v h (31 : Int32)).bind fun r1 => (if r1 ≤ x2 then some x1 else (f_X8_hasSlumped h x2).bind fun r3 => (if r3 = 0 then f_X8_slumpedMany_28 h (f_X8_slumpedMany_4 h n) x2 (0 : Int32) x1 else f_X8_slumpedMany_28 h (f_X8_slumpedMany_4 h n) x2 (1 : Int32) x1))
set_option maxRecDepth 20000 in
theorem j_X8_slumpedMany_4 {p : Program} {l : Launch} {e : Env} {R : Room} {s : State} {m : MethodId} {args : Array Value} {below : List Frame} {meth : Method} {c : Code} {w : WK} (C : CX p R s m args meth c w RX8 cX8_slumpedMany 3 (some .int) 2 42) (h : TT)    : ∀ (n : Nat) (x1 : Int32) (x2 : Int32), GO p l e R s m args below meth c w 3 (fI h) (f_X8_slumpedMany_4 h n x1 x2) 4 [(0, .ref (w.2.1 (147))), (1, .int x1), (2, .int x2)] [] h := by
  intro n
  induction n with
  | zero =>
    intro x1 x2
    exact g_none
  | succ n ih =>
    intro x1 x2
    rw [f_X8_slumpedMany_4]
    refine g_iload_n (pc := 4) C 2 rfl dX8_slumpedMany_4 rfl ?_
    refine g_aload_n (pc := 5) C 0 rfl dX8_slumpedMany_5 rfl ?_
    refine g_bipush (pc := 6) (v := 31) C dX8_slumpedMany_6 kb_31 ?_
    refine g_callI (pc := 8) (rest := [.int x2]) (g_runV C mv_RX8_154 (fun x1 hx1 => m_X8_v hx1) so_RX8 rfl (by decide) rfl rfl (Nat.le_of_ble_eq_true rfl) dX8_slumpedMany_8) (fun r1 => ?_)
    refine g_icmp_ge (pc := 11) (tgt := 36) C dX8_slumpedMany_11 (by decide) (fun hc2 => ?_) (fun hc2 => ?_)
    · refine g_iload_n (pc := 36) C 1 rfl dX8_slumpedMany_36 rfl ?_
      exact g_iret C dX8_slumpedMany_37
    · refine g_iload_n (pc := 14) C 1 rfl dX8_slumpedMany_14 rfl ?_
      refine g_aload_n (pc := 15) C 0 rfl dX8_slumpedMany_15 rfl ?_
      refine g_iload_n (pc := 16) C 2 rfl dX8_slumpedMany_16 rfl ?_
      refine g_callI (pc := 17) (rest := [.int x1]) (g_runV C mv_RX8_185 (fun x1 hx1 => m_X8_hasSlumped hx1) so_RX8 rfl (by decide) rfl rfl (Nat.le_of_ble_eq_true rfl) dX8_slumpedMany_17) (fun r3 => ?_)
      refine g_if_eq (pc := 20) (tgt := 27) C dX8_slumpedMany_20 (by decide) (fun hc4 => ?_) (fun hc4 => ?_)
      · refine g_iconst (pc := 27) (v := 0) C dX8_slumpedMany_27 kc_0 ?_
        refine g_lv (lv' := [(0, .ref (w.2.1 (147))), (2, .int x2)]) [0, 2] rfl ?_
        exact j_X8_slumpedMany_28 C h ih x2 (0 : Int32) x1
      · refine g_iconst (pc := 23) (v := 1) C dX8_slumpedMany_23 kc_1 ?_
        refine g_goto (pc := 24) (tgt := 28) C dX8_slumpedMany_24 (by decide) ?_
        refine g_lv (lv' := [(0, .ref (w.2.1 (147))), (2, .int x2)]) [0, 2] rfl ?_
        exact j_X8_slumpedMany_28 C h ih x2 (1 : Int32) x1
def f_X8_slumpedMany (h : TT)  : Option Int32 := f_X8_slumpedMany_4 h KF (0 : Int32) (0 : Int32)
set_option maxRecDepth 20000 in
theorem m_X8_slumpedMany {l : Launch} {w : WK} {h : TT}  {x : Int32} (hx : f_X8_slumpedMany h  = some x)  : Met l yX8_slumpedMany (Cond.code yX8_slumpedMany cX8_slumpedMany 3 (some .int) :: wsG) { frames := 2, cells := 0, slots := 0, locals := 42 } (PG w [.ref (w.2.1 (147))] h) (QG w ((fI h) x)) 0 0 (AA w) := by
  refine m_entry (own := RX8) (f := (fI h)) hx (by decide) rfl (Nat.le_of_ble_eq_true rfl) (fun p e s m args below meth c C => ?_)
  show GO p l e _ s m args below meth c w 3 (fI h) (f_X8_slumpedMany h ) 0 [(0, .ref (w.2.1 (147)))] [] h
  unfold f_X8_slumpedMany
  refine g_iconst (pc := 0) (v := 0) C dX8_slumpedMany_0 kc_0 ?_
  refine g_istore_n (pc := 1) C dX8_slumpedMany_1 rfl (by decide) (lv' := [(1, .int (0 : Int32)), (0, .ref (w.2.1 (147)))]) rfl ?_
  refine g_iconst (pc := 2) (v := 0) C dX8_slumpedMany_2 kc_0 ?_
  refine g_istore_n (pc := 3) C dX8_slumpedMany_3 rfl (by decide) (lv' := [(2, .int (0 : Int32)), (1, .int (0 : Int32)), (0, .ref (w.2.1 (147)))]) rfl ?_
  refine g_lv (lv' := [(0, .ref (w.2.1 (147))), (1, .int (0 : Int32)), (2, .int (0 : Int32))]) [2, 1, 0] rfl ?_
  exact j_X8_slumpedMany_4 C h KF (0 : Int32) (0 : Int32)
/-- SnowHouseModel.door(I)I -/
def f_X8_door_44   : Nat → Int32 → Int32 → TT → Option (Int32 × TT)
  | 0, _, _, _ => none
  | n + 1, x1, x2, h => (f_X8_size h (0 : Int32)).bind fun r9 => (if r9 ≤ x2 then (f_X8_size h (0 : Int32)).bind fun r11 => (if x1 < r11 then (f_X8_hasSlumped h x1).bind fun r13 => (if r13 = 0 then (f_X8_put_ h ((92 : Int32) + x1) (1 : Int32)).bind fun h15 => (f_X8_settles h15).bind fun h16 => (f_X8_slumpedMany h16).bind fun r17 => some (r17, h16) else (f_X8_meets h (3 : Int32)).bind fun q18 => some (q18.1, q18.2)) else some ((-1 : Int32), h)) else (f_X8_isCut h x2).bind fun r19 => (if r19 = 0 then f_X8_door_44 n x1 (x2 + (1 : Int32)) h else some ((-4 : Int32), h)))
set_option maxRecDepth 20000 in
theorem j_X8_door_44 {p : Program} {l : Launch} {e : Env} {R : Room} {s : State} {m : MethodId} {args : Array Value} {below : List Frame} {meth : Method} {c : Code} {w : WK} (C : CX p R s m args meth c w RX8 cX8_door 3 (some .int) 9 199)     : ∀ (n : Nat) (x1 : Int32) (x2 : Int32) (h : TT), GO p l e R s m args below meth c w 3 fIT (f_X8_door_44 n x1 x2 h) 44 [(0, .ref (w.2.1 (147))), (1, .int x1), (2, .int x2)] [] h := by
  intro n
  induction n with
  | zero =>
    intro x1 x2 h
    exact g_none
  | succ n ih =>
    intro x1 x2 h
    rw [f_X8_door_44]
    refine g_iload_n (pc := 44) C 2 rfl dX8_door_44 rfl ?_
    refine g_aload_n (pc := 45) C 0 rfl dX8_door_45 rfl ?_
    refine g_iconst (pc := 46) (v := 0) C dX8_door_46 kc_0 ?_
    refine g_callI (pc := 47) (rest := [.int x2]) (g_runV C mv_RX8_157 (fun x1 hx1 => m_X8_size hx1) so_RX8 rfl (by decide) rfl rfl (Nat.le_of_ble_eq_true rfl) dX8_door_47) (fun r9 => ?_)
    refine g_icmp_ge (pc := 50) (tgt := 70) C dX8_door_50 (by decide) (fun hc10 => ?_) (fun hc10 => ?_)
    · refine g_iload_n (pc := 70) C 1 rfl dX8_door_70 rfl ?_
      refine g_aload_n (pc := 71) C 0 rfl dX8_door_71 rfl ?_
      refine g_iconst (pc := 72) (v := 0) C dX8_door_72 kc_0 ?_
      refine g_callI (pc := 73) (rest := [.int x1]) (g_runV C mv_RX8_157 (fun x1 hx1 => m_X8_size hx1) so_RX8 rfl (by decide) rfl rfl (Nat.le_of_ble_eq_true rfl) dX8_door_73) (fun r11 => ?_)
      refine g_icmp_lt (pc := 76) (tgt := 81) C dX8_door_76 (by decide) (fun hc12 => ?_) (fun hc12 => ?_)
      · refine g_aload_n (pc := 81) C 0 rfl dX8_door_81 rfl ?_
        refine g_iload_n (pc := 82) C 1 rfl dX8_door_82 rfl ?_
        refine g_callI (pc := 83) (rest := []) (g_runV C mv_RX8_185 (fun x1 hx1 => m_X8_hasSlumped hx1) so_RX8 rfl (by decide) rfl rfl (Nat.le_of_ble_eq_true rfl) dX8_door_83) (fun r13 => ?_)
        refine g_if_eq (pc := 86) (tgt := 95) C dX8_door_86 (by decide) (fun hc14 => ?_) (fun hc14 => ?_)
        · refine g_aload_n (pc := 95) C 0 rfl dX8_door_95 rfl ?_
          refine g_bipush (pc := 96) (v := 92) C dX8_door_96 kb_92 ?_
          refine g_iload_n (pc := 98) C 1 rfl dX8_door_98 rfl ?_
          refine g_iadd (pc := 99) C dX8_door_99 ?_
          refine g_iconst (pc := 100) (v := 1) C dX8_door_100 kc_1 ?_
          refine g_callV (pc := 101) (rest := []) (g_runV C mv_RX8_163 (fun x1 hx1 => m_X8_put_ hx1) so_RX8 rfl (by decide) rfl rfl (Nat.le_of_ble_eq_true rfl) dX8_door_101) (fun h15 => ?_)
          refine g_aload_n (pc := 104) C 0 rfl dX8_door_104 rfl ?_
          refine g_callV (pc := 105) (rest := []) (g_runV C mv_RX8_230 (fun x1 hx1 => m_X8_settles hx1) so_RX8 rfl (by decide) rfl rfl (Nat.le_of_ble_eq_true rfl) dX8_door_105) (fun h16 => ?_)
          refine g_aload_n (pc := 108) C 0 rfl dX8_door_108 rfl ?_
          refine g_callI (pc := 109) (rest := []) (g_runV C mv_RX8_248 (fun x1 hx1 => m_X8_slumpedMany hx1) so_RX8 rfl (by decide) rfl rfl (Nat.le_of_ble_eq_true rfl) dX8_door_109) (fun r17 => ?_)
          exact g_iretT C dX8_door_112
        · refine g_aload_n (pc := 89) C 0 rfl dX8_door_89 rfl ?_
          refine g_iconst (pc := 90) (v := 3) C dX8_door_90 kc_3 ?_
          refine g_callIT (pc := 91) (rest := []) (g_runV C mv_RX8_85 (fun x1 hx1 => m_X8_meets hx1) so_RX8 rfl (by decide) rfl rfl (Nat.le_of_ble_eq_true rfl) dX8_door_91) (fun q18 => ?_)
          exact g_iretT C dX8_door_94
      · refine g_iconst (pc := 79) (v := -1) C dX8_door_79 kc_m1 ?_
        exact g_iretT C dX8_door_80
    · refine g_aload_n (pc := 53) C 0 rfl dX8_door_53 rfl ?_
      refine g_iload_n (pc := 54) C 2 rfl dX8_door_54 rfl ?_
      refine g_callI (pc := 55) (rest := []) (g_runV C mv_RX8_188 (fun x1 hx1 => m_X8_isCut hx1) so_RX8 rfl (by decide) rfl rfl (Nat.le_of_ble_eq_true rfl) dX8_door_55) (fun r19 => ?_)
      refine g_if_eq (pc := 58) (tgt := 64) C dX8_door_58 (by decide) (fun hc20 => ?_) (fun hc20 => ?_)
      · refine g_iinc (pc := 64) C 2 rfl dX8_door_64 (ki_1 _) (by decide) (lv' := [(2, .int (x2 + (1 : Int32))), (0, .ref (w.2.1 (147))), (1, .int x1)]) rfl ?_
        refine g_goto (pc := 67) (tgt := 44) C dX8_door_67 (by decide) ?_
        refine g_lv (lv' := [(0, .ref (w.2.1 (147))), (1, .int x1), (2, .int (x2 + (1 : Int32)))]) [1, 2, 0] rfl ?_
        exact ih x1 (x2 + (1 : Int32)) h
      · refine g_bipush (pc := 61) (v := -4) C dX8_door_61 kb_m4 ?_
        exact g_iretT C dX8_door_63
def f_X8_door (h : TT) (x1 : Int32) : Option (Int32 × TT) := (f_X8_in h x1 (0 : Int32) (11 : Int32)).bind fun r1 => (if r1 = 0 then some ((-1 : Int32), h) else (f_X8_look h (0 : Int32)).bind fun h3 => if inb (0 : Int32) 4 = true then (if (h3.1 160 (0 : Int32).toNatClampNeg) = 0 then some ((-4 : Int32), h3) else (f_X8_v h3 (31 : Int32)).bind fun r6 => (f_X8_all h3).bind fun r7 => (if r7 ≤ r6 then f_X8_door_44 KF x1 (0 : Int32) h3 else some ((-4 : Int32), h3))) else none)
set_option maxRecDepth 20000 in
theorem m_X8_door {l : Launch} {w : WK} {h : TT} {x1 : Int32} {x : (Int32 × TT)} (hx : f_X8_door h x1 = some x)  : Met l yX8_door (Cond.code yX8_door cX8_door 3 (some .int) :: wsG) { frames := 9, cells := 0, slots := 0, locals := 199 } (PG w [.ref (w.2.1 (147)), .int x1] h) (QG w (fIT x)) 0 0 (AA w) := by
  refine m_entry (own := RX8) (f := fIT) hx (by decide) rfl (Nat.le_of_ble_eq_true rfl) (fun p e s m args below meth c C => ?_)
  show GO p l e _ s m args below meth c w 3 fIT (f_X8_door h x1) 0 [(0, .ref (w.2.1 (147))), (1, .int x1)] [] h
  unfold f_X8_door
  refine g_iload_n (pc := 0) C 1 rfl dX8_door_0 rfl ?_
  refine g_iconst (pc := 1) (v := 0) C dX8_door_1 kc_0 ?_
  refine g_bipush (pc := 2) (v := 11) C dX8_door_2 kb_11 ?_
  refine g_callI (pc := 4) (rest := []) (g_runS C ms_RX8_71 (fun x1 hx1 => m_X8_in hx1) (by decide) rfl rfl (Nat.le_of_ble_eq_true rfl) dX8_door_4) (fun r1 => ?_)
  refine g_if_ne (pc := 7) (tgt := 12) C dX8_door_7 (by decide) (fun hc2 => ?_) (fun hc2 => ?_)
  · refine g_iconst (pc := 10) (v := -1) C dX8_door_10 kc_m1 ?_
    exact g_iretT C dX8_door_11
  · refine g_aload_n (pc := 12) C 0 rfl dX8_door_12 rfl ?_
    refine g_iconst (pc := 13) (v := 0) C dX8_door_13 kc_0 ?_
    refine g_callV (pc := 14) (rest := []) (g_runV C mv_RX8_167 (fun x1 hx1 => m_X8_look hx1) so_RX8 rfl (by decide) rfl rfl (Nat.le_of_ble_eq_true rfl) dX8_door_14) (fun h3 => ?_)
    refine g_aload_n (pc := 17) C 0 rfl dX8_door_17 rfl ?_
    refine g_get (pc := 18) C so_RX8 20 fl_RX8_48 (v := .ref (w.2.1 (160))) rfl dX8_door_18 ?_
    refine g_iconst (pc := 21) (v := 0) C dX8_door_21 kc_0 ?_
    refine g_zald (pc := 22) C sz_160 dX8_door_22 (fun hb4 => ?_)
    refine g_if_eq (pc := 23) (tgt := 39) C dX8_door_23 (by decide) (fun hc5 => ?_) (fun hc5 => ?_)
    · refine g_bipush (pc := 39) (v := -4) C dX8_door_39 kb_m4 ?_
      exact g_iretT C dX8_door_41
    · refine g_aload_n (pc := 26) C 0 rfl dX8_door_26 rfl ?_
      refine g_bipush (pc := 27) (v := 31) C dX8_door_27 kb_31 ?_
      refine g_callI (pc := 29) (rest := []) (g_runV C mv_RX8_154 (fun x1 hx1 => m_X8_v hx1) so_RX8 rfl (by decide) rfl rfl (Nat.le_of_ble_eq_true rfl) dX8_door_29) (fun r6 => ?_)
      refine g_aload_n (pc := 32) C 0 rfl dX8_door_32 rfl ?_
      refine g_callI (pc := 33) (rest := [.int r6]) (g_runV C mv_RX8_178 (fun x1 hx1 => m_X8_all hx1) so_RX8 rfl (by decide) rfl rfl (Nat.le_of_ble_eq_true rfl) dX8_door_33) (fun r7 => ?_)
      refine g_icmp_ge (pc := 36) (tgt := 42) C dX8_door_36 (by decide) (fun hc8 => ?_) (fun hc8 => ?_)
      · refine g_iconst (pc := 42) (v := 0) C dX8_door_42 kc_0 ?_
        refine g_istore_n (pc := 43) C dX8_door_43 rfl (by decide) (lv' := [(2, .int (0 : Int32)), (0, .ref (w.2.1 (147))), (1, .int x1)]) rfl ?_
        refine g_lv (lv' := [(0, .ref (w.2.1 (147))), (1, .int x1), (2, .int (0 : Int32))]) [1, 2, 0] rfl ?_
        exact j_X8_door_44 C KF x1 (0 : Int32) h3
      · refine g_bipush (pc := 39) (v := -4) C dX8_door_39 kb_m4 ?_
        exact g_iretT C dX8_door_41
