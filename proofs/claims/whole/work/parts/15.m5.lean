/-- SnowHouseModel.drips(III)I -/
def f_X8_drips_117  (k42 : Int32 → Int32 → Int32 → Int32 → TT → Option (Int32 × TT)) (k61 : Int32 → Int32 → Int32 → Int32 → Int32 → Int32 → Int32 → TT → Option (Int32 × TT)) (x1 : Int32) (x2 : Int32) (x3 : Int32) (x4 : Int32) (x5 : Int32) (x7 : Int32) (xs0 : Int32) (xs1 : Int32) (h : TT) : Option (Int32 × TT) := nm (xs1 + xs0) fun y19 => k61 x1 x2 x3 x4 x5 y19 (x7 + (1 : Int32)) h
set_option maxRecDepth 20000 in
theorem j_X8_drips_117 {p : Program} {l : Launch} {e : Env} {R : Room} {s : State} {m : MethodId} {args : Array Value} {below : List Frame} {meth : Method} {c : Code} {w : WK} (C : CX p R s m args meth c w RX8 cX8_drips 8 (some .int) 2 49)    {k42 : Int32 → Int32 → Int32 → Int32 → TT → Option (Int32 × TT)} (hk42 : ∀ (x1 : Int32) (x2 : Int32) (x3 : Int32) (x4 : Int32)  (h : TT), GO p l e R s m args below meth c w 8 fIT (k42 x1 x2 x3 x4 h) 42 [(0, .ref (w.2.1 (147))), (1, .int x1), (2, .int x2), (3, .int x3), (4, .int x4)] [] h) {k61 : Int32 → Int32 → Int32 → Int32 → Int32 → Int32 → Int32 → TT → Option (Int32 × TT)} (hk61 : ∀ (x1 : Int32) (x2 : Int32) (x3 : Int32) (x4 : Int32) (x5 : Int32) (x6 : Int32) (x7 : Int32)  (h : TT), GO p l e R s m args below meth c w 8 fIT (k61 x1 x2 x3 x4 x5 x6 x7 h) 61 [(0, .ref (w.2.1 (147))), (1, .int x1), (2, .int x2), (3, .int x3), (4, .int x4), (5, .int x5), (6, .int x6), (7, .int x7)] [] h) (x1 : Int32) (x2 : Int32) (x3 : Int32) (x4 : Int32) (x5 : Int32) (x7 : Int32) (xs0 : Int32) (xs1 : Int32)  (h : TT) : GO p l e R s m args below meth c w 8 fIT (f_X8_drips_117 k42 k61 x1 x2 x3 x4 x5 x7 xs0 xs1 h) 117 [(0, .ref (w.2.1 (147))), (1, .int x1), (2, .int x2), (3, .int x3), (4, .int x4), (5, .int x5), (7, .int x7)] [.int xs0, .int xs1] h := by
  unfold f_X8_drips_117
  refine g_iadd (pc := 117) C dX8_drips_117 ?_
  refine g_nmi (fun y19 => ?_)
  refine g_istore (pc := 118) C dX8_drips_118 (by decide) (lv' := [(6, .int y19), (0, .ref (w.2.1 (147))), (1, .int x1), (2, .int x2), (3, .int x3), (4, .int x4), (5, .int x5), (7, .int x7)]) rfl ?_
  refine g_iinc (pc := 120) C 7 rfl dX8_drips_120 (ki_1 _) (by decide) (lv' := [(7, .int (x7 + (1 : Int32))), (6, .int y19), (0, .ref (w.2.1 (147))), (1, .int x1), (2, .int x2), (3, .int x3), (4, .int x4), (5, .int x5)]) rfl ?_
  refine g_goto (pc := 123) (tgt := 61) C dX8_drips_123 (by decide) ?_
  refine g_lv (lv' := [(0, .ref (w.2.1 (147))), (1, .int x1), (2, .int x2), (3, .int x3), (4, .int x4), (5, .int x5), (6, .int y19), (7, .int (x7 + (1 : Int32)))]) [2, 3, 4, 5, 6, 7, 1, 0] rfl ?_
  exact hk61 x1 x2 x3 x4 x5 y19 (x7 + (1 : Int32)) h
def f_X8_drips_99  (k42 : Int32 → Int32 → Int32 → Int32 → TT → Option (Int32 × TT)) (k61 : Int32 → Int32 → Int32 → Int32 → Int32 → Int32 → Int32 → TT → Option (Int32 × TT)) (x1 : Int32) (x2 : Int32) (x3 : Int32) (x4 : Int32) (x6 : Int32) (x7 : Int32) (xs0 : Int32) (h : TT) : Option (Int32 × TT) := if inb (5 : Int32) 6 = true then (if (h.1 164 (5 : Int32).toNatClampNeg) ≤ 0 then f_X8_drips_117 k42 k61 x1 x2 x3 x4 xs0 x7 (0 : Int32) x6 h else f_X8_drips_117 k42 k61 x1 x2 x3 x4 xs0 x7 (1 : Int32) x6 h) else none
set_option maxRecDepth 20000 in
theorem j_X8_drips_99 {p : Program} {l : Launch} {e : Env} {R : Room} {s : State} {m : MethodId} {args : Array Value} {below : List Frame} {meth : Method} {c : Code} {w : WK} (C : CX p R s m args meth c w RX8 cX8_drips 8 (some .int) 2 49)    {k42 : Int32 → Int32 → Int32 → Int32 → TT → Option (Int32 × TT)} (hk42 : ∀ (x1 : Int32) (x2 : Int32) (x3 : Int32) (x4 : Int32)  (h : TT), GO p l e R s m args below meth c w 8 fIT (k42 x1 x2 x3 x4 h) 42 [(0, .ref (w.2.1 (147))), (1, .int x1), (2, .int x2), (3, .int x3), (4, .int x4)] [] h) {k61 : Int32 → Int32 → Int32 → Int32 → Int32 → Int32 → Int32 → TT → Option (Int32 × TT)} (hk61 : ∀ (x1 : Int32) (x2 : Int32) (x3 : Int32) (x4 : Int32) (x5 : Int32) (x6 : Int32) (x7 : Int32)  (h : TT), GO p l e R s m args below meth c w 8 fIT (k61 x1 x2 x3 x4 x5 x6 x7 h) 61 [(0, .ref (w.2.1 (147))), (1, .int x1), (2, .int x2), (3, .int x3), (4, .int x4), (5, .int x5), (6, .int x6), (7, .int x7)] [] h) (x1 : Int32) (x2 : Int32) (x3 : Int32) (x4 : Int32) (x6 : Int32) (x7 : Int32) (xs0 : Int32)  (h : TT) : GO p l e R s m args below meth c w 8 fIT (f_X8_drips_99 k42 k61 x1 x2 x3 x4 x6 x7 xs0 h) 99 [(0, .ref (w.2.1 (147))), (1, .int x1), (2, .int x2), (3, .int x3), (4, .int x4), (6, .int x6), (7, .int x7)] [.int xs0] h := by
  unfold f_X8_drips_99
  refine g_istore (pc := 99) C dX8_drips_99 (by decide) (lv' := [(5, .int xs0), (0, .ref (w.2.1 (147))), (1, .int x1), (2, .int x2), (3, .int x3), (4, .int x4), (6, .int x6), (7, .int x7)]) rfl ?_
  refine g_iload (pc := 101) C 6 rfl dX8_drips_101 ?_
  refine g_aload_n (pc := 103) C 1 rfl dX8_drips_103 rfl ?_
  refine g_get (pc := 104) C so_RX8 25 fl_RX8_60 (v := .ref (w.2.1 (164))) rfl dX8_drips_104 ?_
  refine g_iconst (pc := 107) (v := 5) C dX8_drips_107 kc_5 ?_
  refine g_iald (pc := 108) C si_164 dX8_drips_108 (fun hb17 => ?_)
  refine g_if_le (pc := 109) (tgt := 116) C dX8_drips_109 (by decide) (fun hc18 => ?_) (fun hc18 => ?_)
  · refine g_iconst (pc := 116) (v := 0) C dX8_drips_116 kc_0 ?_
    refine g_lv (lv' := [(0, .ref (w.2.1 (147))), (1, .int x1), (2, .int x2), (3, .int x3), (4, .int x4), (5, .int xs0), (7, .int x7)]) [1, 2, 3, 4, 5, 0, 7] rfl ?_
    exact j_X8_drips_117 C hk42 hk61 x1 x2 x3 x4 xs0 x7 (0 : Int32) x6 h
  · refine g_iconst (pc := 112) (v := 1) C dX8_drips_112 kc_1 ?_
    refine g_goto (pc := 113) (tgt := 117) C dX8_drips_113 (by decide) ?_
    refine g_lv (lv' := [(0, .ref (w.2.1 (147))), (1, .int x1), (2, .int x2), (3, .int x3), (4, .int x4), (5, .int xs0), (7, .int x7)]) [1, 2, 3, 4, 5, 0, 7] rfl ?_
    exact j_X8_drips_117 C hk42 hk61 x1 x2 x3 x4 xs0 x7 (1 : Int32) x6 h
def f_X8_drips_98  (k42 : Int32 → Int32 → Int32 → Int32 → TT → Option (Int32 × TT)) (k61 : Int32 → Int32 → Int32 → Int32 → Int32 → Int32 → Int32 → TT → Option (Int32 × TT)) (x1 : Int32) (x2 : Int32) (x3 : Int32) (x4 : Int32) (x6 : Int32) (x7 : Int32) (h : TT) : Option (Int32 × TT) := f_X8_drips_99 k42 k61 x1 x2 x3 x4 x6 x7 (0 : Int32) h
set_option maxRecDepth 20000 in
theorem j_X8_drips_98 {p : Program} {l : Launch} {e : Env} {R : Room} {s : State} {m : MethodId} {args : Array Value} {below : List Frame} {meth : Method} {c : Code} {w : WK} (C : CX p R s m args meth c w RX8 cX8_drips 8 (some .int) 2 49)    {k42 : Int32 → Int32 → Int32 → Int32 → TT → Option (Int32 × TT)} (hk42 : ∀ (x1 : Int32) (x2 : Int32) (x3 : Int32) (x4 : Int32)  (h : TT), GO p l e R s m args below meth c w 8 fIT (k42 x1 x2 x3 x4 h) 42 [(0, .ref (w.2.1 (147))), (1, .int x1), (2, .int x2), (3, .int x3), (4, .int x4)] [] h) {k61 : Int32 → Int32 → Int32 → Int32 → Int32 → Int32 → Int32 → TT → Option (Int32 × TT)} (hk61 : ∀ (x1 : Int32) (x2 : Int32) (x3 : Int32) (x4 : Int32) (x5 : Int32) (x6 : Int32) (x7 : Int32)  (h : TT), GO p l e R s m args below meth c w 8 fIT (k61 x1 x2 x3 x4 x5 x6 x7 h) 61 [(0, .ref (w.2.1 (147))), (1, .int x1), (2, .int x2), (3, .int x3), (4, .int x4), (5, .int x5), (6, .int x6), (7, .int x7)] [] h) (x1 : Int32) (x2 : Int32) (x3 : Int32) (x4 : Int32) (x6 : Int32) (x7 : Int32)  (h : TT) : GO p l e R s m args below meth c w 8 fIT (f_X8_drips_98 k42 k61 x1 x2 x3 x4 x6 x7 h) 98 [(0, .ref (w.2.1 (147))), (1, .int x1), (2, .int x2), (3, .int x3), (4, .int x4), (6, .int x6), (7, .int x7)] [] h := by
  unfold f_X8_drips_98
  refine g_iconst (pc := 98) (v := 0) C dX8_drips_98 kc_0 ?_
  exact j_X8_drips_99 C hk42 hk61 x1 x2 x3 x4 x6 x7 (0 : Int32) h
def f_X8_drips_61  (k42 : Int32 → Int32 → Int32 → Int32 → TT → Option (Int32 × TT)) : Nat → Int32 → Int32 → Int32 → Int32 → Int32 → Int32 → Int32 → TT → Option (Int32 × TT)
  | 0, _, _, _, _, _, _, _, _ => none
  | n + 1, x1, x2, x3, x4, x5, x6, x7, h => (if (24 : Int32) ≤ x7 then (if x5 = 0 then k42 x1 x2 x3 (x4 + (-1 : Int32)) h else (f_X8_tellsBy h x6 x4).bind fun q14 => some (q14.1, q14.2)) else (f_X8_hour h x1 x4 x2 x3 (1 : Int32)).bind fun h15 => (if x5 = 0 then f_X8_drips_98 k42 (f_X8_drips_61 k42 n) x1 x2 x3 x4 x6 x7 h15 else if inb (5 : Int32) 6 = true then (if (30 : Int32) < (h15.1 164 (5 : Int32).toNatClampNeg) then f_X8_drips_98 k42 (f_X8_drips_61 k42 n) x1 x2 x3 x4 x6 x7 h15 else f_X8_drips_99 k42 (f_X8_drips_61 k42 n) x1 x2 x3 x4 x6 x7 (1 : Int32) h15) else none))
set_option maxRecDepth 20000 in
theorem j_X8_drips_61 {p : Program} {l : Launch} {e : Env} {R : Room} {s : State} {m : MethodId} {args : Array Value} {below : List Frame} {meth : Method} {c : Code} {w : WK} (C : CX p R s m args meth c w RX8 cX8_drips 8 (some .int) 2 49)    {k42 : Int32 → Int32 → Int32 → Int32 → TT → Option (Int32 × TT)} (hk42 : ∀ (x1 : Int32) (x2 : Int32) (x3 : Int32) (x4 : Int32)  (h : TT), GO p l e R s m args below meth c w 8 fIT (k42 x1 x2 x3 x4 h) 42 [(0, .ref (w.2.1 (147))), (1, .int x1), (2, .int x2), (3, .int x3), (4, .int x4)] [] h) : ∀ (n : Nat) (x1 : Int32) (x2 : Int32) (x3 : Int32) (x4 : Int32) (x5 : Int32) (x6 : Int32) (x7 : Int32) (h : TT), GO p l e R s m args below meth c w 8 fIT (f_X8_drips_61 k42 n x1 x2 x3 x4 x5 x6 x7 h) 61 [(0, .ref (w.2.1 (147))), (1, .int x1), (2, .int x2), (3, .int x3), (4, .int x4), (5, .int x5), (6, .int x6), (7, .int x7)] [] h := by
  intro n
  induction n with
  | zero =>
    intro x1 x2 x3 x4 x5 x6 x7 h
    exact g_none
  | succ n ih =>
    intro x1 x2 x3 x4 x5 x6 x7 h
    rw [f_X8_drips_61]
    refine g_iload (pc := 61) C 7 rfl dX8_drips_61 ?_
    refine g_bipush (pc := 63) (v := 24) C dX8_drips_63 kb_24 ?_
    refine g_icmp_ge (pc := 65) (tgt := 126) C dX8_drips_65 (by decide) (fun hc12 => ?_) (fun hc12 => ?_)
    · refine g_iload (pc := 126) C 5 rfl dX8_drips_126 ?_
      refine g_if_eq (pc := 128) (tgt := 140) C dX8_drips_128 (by decide) (fun hc13 => ?_) (fun hc13 => ?_)
      · refine g_iinc (pc := 140) C 4 rfl dX8_drips_140 (ki_m1 _) (by decide) (lv' := [(4, .int (x4 + (-1 : Int32))), (0, .ref (w.2.1 (147))), (1, .int x1), (2, .int x2), (3, .int x3), (5, .int x5), (6, .int x6), (7, .int x7)]) rfl ?_
        refine g_goto (pc := 143) (tgt := 42) C dX8_drips_143 (by decide) ?_
        refine g_lv (lv' := [(0, .ref (w.2.1 (147))), (1, .int x1), (2, .int x2), (3, .int x3), (4, .int (x4 + (-1 : Int32)))]) [1, 2, 3, 4, 0] rfl ?_
        exact hk42 x1 x2 x3 (x4 + (-1 : Int32)) h
      · refine g_aload_n (pc := 131) C 0 rfl dX8_drips_131 rfl ?_
        refine g_iload (pc := 132) C 6 rfl dX8_drips_132 ?_
        refine g_iload (pc := 134) C 4 rfl dX8_drips_134 ?_
        refine g_callIT (pc := 136) (rest := []) (g_runV C mv_RX8_93 (fun x1 hx1 => m_X8_tellsBy hx1) so_RX8 rfl (by decide) rfl rfl (Nat.le_of_ble_eq_true rfl) dX8_drips_136) (fun q14 => ?_)
        exact g_iretT C dX8_drips_139
    · refine g_aload_n (pc := 68) C 0 rfl dX8_drips_68 rfl ?_
      refine g_iload_n (pc := 69) C 1 rfl dX8_drips_69 rfl ?_
      refine g_iload (pc := 70) C 4 rfl dX8_drips_70 ?_
      refine g_iload_n (pc := 72) C 2 rfl dX8_drips_72 rfl ?_
      refine g_iload_n (pc := 73) C 3 rfl dX8_drips_73 rfl ?_
      refine g_iconst (pc := 74) (v := 1) C dX8_drips_74 kc_1 ?_
      refine g_callV (pc := 75) (rest := []) (g_runV C mv_RX8_293 (fun x1 hx1 => m_X8_hour hx1) so_RX8 rfl (by decide) rfl rfl (Nat.le_of_ble_eq_true rfl) dX8_drips_75) (fun h15 => ?_)
      refine g_iload (pc := 78) C 5 rfl dX8_drips_78 ?_
      refine g_if_eq (pc := 80) (tgt := 98) C dX8_drips_80 (by decide) (fun hc16 => ?_) (fun hc16 => ?_)
      · refine g_lv (lv' := [(0, .ref (w.2.1 (147))), (1, .int x1), (2, .int x2), (3, .int x3), (4, .int x4), (6, .int x6), (7, .int x7)]) [0, 1, 2, 3, 4, 6, 7] rfl ?_
        exact j_X8_drips_98 C hk42 ih x1 x2 x3 x4 x6 x7 h15
      · refine g_aload_n (pc := 83) C 0 rfl dX8_drips_83 rfl ?_
        refine g_get (pc := 84) C so_RX8 25 fl_RX8_60 (v := .ref (w.2.1 (164))) rfl dX8_drips_84 ?_
        refine g_iconst (pc := 87) (v := 5) C dX8_drips_87 kc_5 ?_
        refine g_iald (pc := 88) C si_164 dX8_drips_88 (fun hb20 => ?_)
        refine g_bipush (pc := 89) (v := 30) C dX8_drips_89 kb_30 ?_
        refine g_icmp_gt (pc := 91) (tgt := 98) C dX8_drips_91 (by decide) (fun hc21 => ?_) (fun hc21 => ?_)
        · refine g_lv (lv' := [(0, .ref (w.2.1 (147))), (1, .int x1), (2, .int x2), (3, .int x3), (4, .int x4), (6, .int x6), (7, .int x7)]) [0, 1, 2, 3, 4, 6, 7] rfl ?_
          exact j_X8_drips_98 C hk42 ih x1 x2 x3 x4 x6 x7 h15
        · refine g_iconst (pc := 94) (v := 1) C dX8_drips_94 kc_1 ?_
          refine g_goto (pc := 95) (tgt := 99) C dX8_drips_95 (by decide) ?_
          refine g_lv (lv' := [(0, .ref (w.2.1 (147))), (1, .int x1), (2, .int x2), (3, .int x3), (4, .int x4), (6, .int x6), (7, .int x7)]) [0, 1, 2, 3, 4, 6, 7] rfl ?_
          exact j_X8_drips_99 C hk42 ih x1 x2 x3 x4 x6 x7 (1 : Int32) h15
def f_X8_drips_42   : Nat → Int32 → Int32 → Int32 → Int32 → TT → Option (Int32 × TT)
  | 0, _, _, _, _, _ => none
  | n + 1, x1, x2, x3, x4, h => (if x4 < 0 then some ((-9 : Int32), h) else (f_X8_begin h x1).bind fun h11 => f_X8_drips_61 (f_X8_drips_42 n) KF x1 x2 x3 x4 (1 : Int32) (0 : Int32) (0 : Int32) h11)
set_option maxRecDepth 20000 in
theorem j_X8_drips_42 {p : Program} {l : Launch} {e : Env} {R : Room} {s : State} {m : MethodId} {args : Array Value} {below : List Frame} {meth : Method} {c : Code} {w : WK} (C : CX p R s m args meth c w RX8 cX8_drips 8 (some .int) 2 49)     : ∀ (n : Nat) (x1 : Int32) (x2 : Int32) (x3 : Int32) (x4 : Int32) (h : TT), GO p l e R s m args below meth c w 8 fIT (f_X8_drips_42 n x1 x2 x3 x4 h) 42 [(0, .ref (w.2.1 (147))), (1, .int x1), (2, .int x2), (3, .int x3), (4, .int x4)] [] h := by
  intro n
  induction n with
  | zero =>
    intro x1 x2 x3 x4 h
    exact g_none
  | succ n ih =>
    intro x1 x2 x3 x4 h
    rw [f_X8_drips_42]
    refine g_iload (pc := 42) C 4 rfl dX8_drips_42 ?_
    refine g_if_lt (pc := 44) (tgt := 146) C dX8_drips_44 (by decide) (fun hc10 => ?_) (fun hc10 => ?_)
    · refine g_bipush (pc := 146) (v := -9) C dX8_drips_146 kb_m9 ?_
      exact g_iretT C dX8_drips_148
    · refine g_iconst (pc := 47) (v := 1) C dX8_drips_47 kc_1 ?_
      refine g_istore (pc := 48) C dX8_drips_48 (by decide) (lv' := [(5, .int (1 : Int32)), (0, .ref (w.2.1 (147))), (1, .int x1), (2, .int x2), (3, .int x3), (4, .int x4)]) rfl ?_
      refine g_iconst (pc := 50) (v := 0) C dX8_drips_50 kc_0 ?_
      refine g_istore (pc := 51) C dX8_drips_51 (by decide) (lv' := [(6, .int (0 : Int32)), (5, .int (1 : Int32)), (0, .ref (w.2.1 (147))), (1, .int x1), (2, .int x2), (3, .int x3), (4, .int x4)]) rfl ?_
      refine g_aload_n (pc := 53) C 2 rfl dX8_drips_53 rfl ?_
      refine g_iload_n (pc := 54) C 3 rfl dX8_drips_54 rfl ?_
      refine g_callV (pc := 55) (rest := []) (g_runV C mv_RX8_290 (fun x1 hx1 => m_X8_begin hx1) so_RX8 rfl (by decide) rfl rfl (Nat.le_of_ble_eq_true rfl) dX8_drips_55) (fun h11 => ?_)
      refine g_iconst (pc := 58) (v := 0) C dX8_drips_58 kc_0 ?_
      refine g_istore (pc := 59) C dX8_drips_59 (by decide) (lv' := [(7, .int (0 : Int32)), (6, .int (0 : Int32)), (5, .int (1 : Int32)), (0, .ref (w.2.1 (147))), (1, .int x1), (2, .int x2), (3, .int x3), (4, .int x4)]) rfl ?_
      refine g_lv (lv' := [(0, .ref (w.2.1 (147))), (1, .int x1), (2, .int x2), (3, .int x3), (4, .int x4), (5, .int (1 : Int32)), (6, .int (0 : Int32)), (7, .int (0 : Int32))]) [3, 4, 5, 6, 7, 2, 1, 0] rfl ?_
      exact j_X8_drips_61 C ih KF x1 x2 x3 x4 (1 : Int32) (0 : Int32) (0 : Int32) h11
def f_X8_drips (h : TT) (x1 : Int32) (x2 : Int32) (x3 : Int32) : Option (Int32 × TT) := (f_X8_isPlace h x1).bind fun r1 => (if r1 = 0 then some ((-1 : Int32), h) else (f_X8_isMany h x2).bind fun r3 => (if r3 = 0 then some ((-1 : Int32), h) else (f_X8_isMany h x3).bind fun r5 => (if r5 = 0 then some ((-1 : Int32), h) else if inb x1 4 = true then (if (h.1 154 x1.toNatClampNeg) = 0 then (f_X8_meets h (1 : Int32)).bind fun q9 => some (q9.1, q9.2) else f_X8_drips_42 KF x1 x2 x3 (9 : Int32) h) else none)))
set_option maxRecDepth 20000 in
theorem m_X8_drips {l : Launch} {w : WK} {h : TT} {x1 : Int32} {x2 : Int32} {x3 : Int32} {x : (Int32 × TT)} (hx : f_X8_drips h x1 x2 x3 = some x)  : Met l yX8_drips (Cond.code yX8_drips cX8_drips 8 (some .int) :: wsG) { frames := 2, cells := 0, slots := 0, locals := 49 } (PG w [.ref (w.2.1 (147)), .int x1, .int x2, .int x3] h) (QG w (fIT x)) 0 0 (AA w) := by
  refine m_entry (own := RX8) (f := fIT) hx (by decide) rfl (Nat.le_of_ble_eq_true rfl) (fun p e s m args below meth c C => ?_)
  show GO p l e _ s m args below meth c w 8 fIT (f_X8_drips h x1 x2 x3) 0 [(0, .ref (w.2.1 (147))), (1, .int x1), (2, .int x2), (3, .int x3)] [] h
  unfold f_X8_drips
  refine g_iload_n (pc := 0) C 1 rfl dX8_drips_0 rfl ?_
  refine g_callI (pc := 1) (rest := []) (g_runS C ms_RX8_136 (fun x1 hx1 => m_X8_isPlace hx1) (by decide) rfl rfl (Nat.le_of_ble_eq_true rfl) dX8_drips_1) (fun r1 => ?_)
  refine g_if_eq (pc := 4) (tgt := 21) C dX8_drips_4 (by decide) (fun hc2 => ?_) (fun hc2 => ?_)
  · refine g_iconst (pc := 21) (v := -1) C dX8_drips_21 kc_m1 ?_
    exact g_iretT C dX8_drips_22
  · refine g_iload_n (pc := 7) C 2 rfl dX8_drips_7 rfl ?_
    refine g_callI (pc := 8) (rest := []) (g_runS C ms_RX8_297 (fun x1 hx1 => m_X8_isMany hx1) (by decide) rfl rfl (Nat.le_of_ble_eq_true rfl) dX8_drips_8) (fun r3 => ?_)
    refine g_if_eq (pc := 11) (tgt := 21) C dX8_drips_11 (by decide) (fun hc4 => ?_) (fun hc4 => ?_)
    · refine g_iconst (pc := 21) (v := -1) C dX8_drips_21 kc_m1 ?_
      exact g_iretT C dX8_drips_22
    · refine g_iload_n (pc := 14) C 3 rfl dX8_drips_14 rfl ?_
      refine g_callI (pc := 15) (rest := []) (g_runS C ms_RX8_297 (fun x1 hx1 => m_X8_isMany hx1) (by decide) rfl rfl (Nat.le_of_ble_eq_true rfl) dX8_drips_15) (fun r5 => ?_)
      refine g_if_ne (pc := 18) (tgt := 23) C dX8_drips_18 (by decide) (fun hc6 => ?_) (fun hc6 => ?_)
      · refine g_iconst (pc := 21) (v := -1) C dX8_drips_21 kc_m1 ?_
        exact g_iretT C dX8_drips_22
      · refine g_aload_n (pc := 23) C 0 rfl dX8_drips_23 rfl ?_
        refine g_get (pc := 24) C so_RX8 10 fl_RX8_29 (v := .ref (w.2.1 (154))) rfl dX8_drips_24 ?_
        refine g_iload_n (pc := 27) C 1 rfl dX8_drips_27 rfl ?_
        refine g_zald (pc := 28) C sz_154 dX8_drips_28 (fun hb7 => ?_)
        refine g_if_ne (pc := 29) (tgt := 38) C dX8_drips_29 (by decide) (fun hc8 => ?_) (fun hc8 => ?_)
        · refine g_aload_n (pc := 32) C 0 rfl dX8_drips_32 rfl ?_
          refine g_iconst (pc := 33) (v := 1) C dX8_drips_33 kc_1 ?_
          refine g_callIT (pc := 34) (rest := []) (g_runV C mv_RX8_85 (fun x1 hx1 => m_X8_meets hx1) so_RX8 rfl (by decide) rfl rfl (Nat.le_of_ble_eq_true rfl) dX8_drips_34) (fun q9 => ?_)
          exact g_iretT C dX8_drips_37
        · refine g_bipush (pc := 38) (v := 9) C dX8_drips_38 kb_9 ?_
          refine g_istore (pc := 40) C dX8_drips_40 (by decide) (lv' := [(4, .int (9 : Int32)), (0, .ref (w.2.1 (147))), (1, .int x1), (2, .int x2), (3, .int x3)]) rfl ?_
          refine g_lv (lv' := [(0, .ref (w.2.1 (147))), (1, .int x1), (2, .int x2), (3, .int x3), (4, .int (9 : Int32))]) [1, 2, 3, 4, 0] rfl ?_
          exact j_X8_drips_42 C KF x1 x2 x3 (9 : Int32) h
/-- SnowHouseModel.daysOf(III)I -/
def f_X8_daysOf_89   (x6 : Int32) (h : TT) : Option (Int32 × TT) := some (x6 - (1 : Int32), h)
set_option maxRecDepth 20000 in
theorem j_X8_daysOf_89 {p : Program} {l : Launch} {e : Env} {R : Room} {s : State} {m : MethodId} {args : Array Value} {below : List Frame} {meth : Method} {c : Code} {w : WK} (C : CX p R s m args meth c w RX8 cX8_daysOf 7 (some .int) 0 0)     (x6 : Int32)  (h : TT) : GO p l e R s m args below meth c w 7 fIT (f_X8_daysOf_89 x6 h) 89 [(6, .int x6)] [] h := by
  unfold f_X8_daysOf_89
  refine g_iload (pc := 89) C 0 rfl dX8_daysOf_89 ?_
  refine g_iconst (pc := 91) (v := 1) C dX8_daysOf_91 kc_1 ?_
  refine g_isub (pc := 92) C dX8_daysOf_92 ?_
  exact g_iretT C dX8_daysOf_93
def f_X8_daysOf_75  (k15 : Int32 → Int32 → Int32 → Int32 → Int32 → Int32 → TT → Option (Int32 × TT)) (x1 : Int32) (x2 : Int32) (x3 : Int32) (x4 : Int32) (x5 : Int32) (x6 : Int32) (h : TT) : Option (Int32 × TT) := (if x4 < (30 : Int32) then f_X8_daysOf_89 x6 h else (if x5 ≤ (40 : Int32) then nm (wr h 147 27 x5) fun h9 => k15 x1 x2 x3 x4 x5 (x6 + (1 : Int32)) h9 else f_X8_daysOf_89 x6 h))
set_option maxRecDepth 20000 in
theorem j_X8_daysOf_75 {p : Program} {l : Launch} {e : Env} {R : Room} {s : State} {m : MethodId} {args : Array Value} {below : List Frame} {meth : Method} {c : Code} {w : WK} (C : CX p R s m args meth c w RX8 cX8_daysOf 7 (some .int) 0 0)    {k15 : Int32 → Int32 → Int32 → Int32 → Int32 → Int32 → TT → Option (Int32 × TT)} (hk15 : ∀ (x1 : Int32) (x2 : Int32) (x3 : Int32) (x4 : Int32) (x5 : Int32) (x6 : Int32)  (h : TT), GO p l e R s m args below meth c w 7 fIT (k15 x1 x2 x3 x4 x5 x6 h) 15 [(0, .ref (w.2.1 (147))), (1, .int x1), (2, .int x2), (3, .int x3), (4, .int x4), (5, .int x5), (6, .int x6)] [] h) (x1 : Int32) (x2 : Int32) (x3 : Int32) (x4 : Int32) (x5 : Int32) (x6 : Int32)  (h : TT) : GO p l e R s m args below meth c w 7 fIT (f_X8_daysOf_75 k15 x1 x2 x3 x4 x5 x6 h) 75 [(0, .ref (w.2.1 (147))), (1, .int x1), (2, .int x2), (3, .int x3), (4, .int x4), (5, .int x5), (6, .int x6)] [] h := by
  unfold f_X8_daysOf_75
  refine g_iload (pc := 75) C 4 rfl dX8_daysOf_75 ?_
  refine g_bipush (pc := 77) (v := 30) C dX8_daysOf_77 kb_30 ?_
  refine g_icmp_lt (pc := 79) (tgt := 89) C dX8_daysOf_79 (by decide) (fun hc7 => ?_) (fun hc7 => ?_)
  · refine g_lv (lv' := [(6, .int x6)]) [6] rfl ?_
    exact j_X8_daysOf_89 C x6 h
  · refine g_iload (pc := 82) C 5 rfl dX8_daysOf_82 ?_
    refine g_bipush (pc := 84) (v := 40) C dX8_daysOf_84 kb_40 ?_
    refine g_icmp_le (pc := 86) (tgt := 94) C dX8_daysOf_86 (by decide) (fun hc8 => ?_) (fun hc8 => ?_)
    · refine g_aload_n (pc := 94) C 0 rfl dX8_daysOf_94 rfl ?_
      refine g_iload (pc := 95) C 5 rfl dX8_daysOf_95 ?_
      refine g_putI (pc := 97) C so_RX8 27 fp_RX8_304 (se_RX8_27 _) rfl rfl (sl_RX8_27) dX8_daysOf_97 ?_
      refine g_nm (fun h9 => ?_)
      refine g_iinc (pc := 100) C 6 rfl dX8_daysOf_100 (ki_1 _) (by decide) (lv' := [(6, .int (x6 + (1 : Int32))), (0, .ref (w.2.1 (147))), (1, .int x1), (2, .int x2), (3, .int x3), (4, .int x4), (5, .int x5)]) rfl ?_
      refine g_goto (pc := 103) (tgt := 15) C dX8_daysOf_103 (by decide) ?_
      refine g_lv (lv' := [(0, .ref (w.2.1 (147))), (1, .int x1), (2, .int x2), (3, .int x3), (4, .int x4), (5, .int x5), (6, .int (x6 + (1 : Int32)))]) [1, 2, 3, 4, 5, 6, 0] rfl ?_
      exact hk15 x1 x2 x3 x4 x5 (x6 + (1 : Int32)) h9
    · refine g_lv (lv' := [(6, .int x6)]) [6] rfl ?_
      exact j_X8_daysOf_89 C x6 h
def f_X8_daysOf_40  (k15 : Int32 → Int32 → Int32 → Int32 → Int32 → Int32 → TT → Option (Int32 × TT)) (x1 : Int32) (x2 : Int32) (x3 : Int32) (x5 : Int32) (x6 : Int32) (xs0 : Int32) (xs1 : Int32) (xs2 : Int32) (h : TT) : Option (Int32 × TT) := nm (xs2 - (xs1 + xs0)) fun y4 => nm (x5 + (x1 + (1 : Int32))) fun y5 => (if x3 ≤ 0 then f_X8_daysOf_75 k15 x1 x2 x3 y4 y5 x6 h else if x3 = 0 then none else (if (x6 - x6 / x3 * x3) = 0 then nm (y5 - (y5 / (2 : Int32))) fun y12 => f_X8_daysOf_75 k15 x1 x2 x3 (y4 + (-5 : Int32)) y12 x6 h else f_X8_daysOf_75 k15 x1 x2 x3 y4 y5 x6 h))
set_option maxRecDepth 20000 in
theorem j_X8_daysOf_40 {p : Program} {l : Launch} {e : Env} {R : Room} {s : State} {m : MethodId} {args : Array Value} {below : List Frame} {meth : Method} {c : Code} {w : WK} (C : CX p R s m args meth c w RX8 cX8_daysOf 7 (some .int) 0 0)    {k15 : Int32 → Int32 → Int32 → Int32 → Int32 → Int32 → TT → Option (Int32 × TT)} (hk15 : ∀ (x1 : Int32) (x2 : Int32) (x3 : Int32) (x4 : Int32) (x5 : Int32) (x6 : Int32)  (h : TT), GO p l e R s m args below meth c w 7 fIT (k15 x1 x2 x3 x4 x5 x6 h) 15 [(0, .ref (w.2.1 (147))), (1, .int x1), (2, .int x2), (3, .int x3), (4, .int x4), (5, .int x5), (6, .int x6)] [] h) (x1 : Int32) (x2 : Int32) (x3 : Int32) (x5 : Int32) (x6 : Int32) (xs0 : Int32) (xs1 : Int32) (xs2 : Int32)  (h : TT) : GO p l e R s m args below meth c w 7 fIT (f_X8_daysOf_40 k15 x1 x2 x3 x5 x6 xs0 xs1 xs2 h) 40 [(0, .ref (w.2.1 (147))), (1, .int x1), (2, .int x2), (3, .int x3), (5, .int x5), (6, .int x6)] [.int xs0, .int xs1, .int xs2] h := by
  unfold f_X8_daysOf_40
  refine g_iadd (pc := 40) C dX8_daysOf_40 ?_
  refine g_isub (pc := 41) C dX8_daysOf_41 ?_
  refine g_nmi (fun y4 => ?_)
  refine g_istore (pc := 42) C dX8_daysOf_42 (by decide) (lv' := [(4, .int y4), (0, .ref (w.2.1 (147))), (1, .int x1), (2, .int x2), (3, .int x3), (5, .int x5), (6, .int x6)]) rfl ?_
  refine g_iload (pc := 44) C 5 rfl dX8_daysOf_44 ?_
  refine g_iload_n (pc := 46) C 2 rfl dX8_daysOf_46 rfl ?_
  refine g_iconst (pc := 47) (v := 1) C dX8_daysOf_47 kc_1 ?_
  refine g_iadd (pc := 48) C dX8_daysOf_48 ?_
  refine g_iadd (pc := 49) C dX8_daysOf_49 ?_
  refine g_nmi (fun y5 => ?_)
  refine g_istore (pc := 50) C dX8_daysOf_50 (by decide) (lv' := [(5, .int y5), (4, .int y4), (0, .ref (w.2.1 (147))), (1, .int x1), (2, .int x2), (3, .int x3), (6, .int x6)]) rfl ?_
  refine g_iload_n (pc := 52) C 5 rfl dX8_daysOf_52 rfl ?_
  refine g_if_le (pc := 53) (tgt := 75) C dX8_daysOf_53 (by decide) (fun hc6 => ?_) (fun hc6 => ?_)
  · refine g_lv (lv' := [(0, .ref (w.2.1 (147))), (1, .int x1), (2, .int x2), (3, .int x3), (4, .int y4), (5, .int y5), (6, .int x6)]) [2, 3, 4, 5, 1, 0, 6] rfl ?_
    exact j_X8_daysOf_75 C hk15 x1 x2 x3 y4 y5 x6 h
  · refine g_iload (pc := 56) C 6 rfl dX8_daysOf_56 ?_
    refine g_iload_n (pc := 58) C 5 rfl dX8_daysOf_58 rfl ?_
    refine g_guardp (fun hz10 => ?_)
    refine g_irem (pc := 59) C dX8_daysOf_59 hz10 ?_
    refine g_if_ne (pc := 60) (tgt := 75) C dX8_daysOf_60 (by decide) (fun hc11 => ?_) (fun hc11 => ?_)
    · refine g_iload (pc := 63) C 0 rfl dX8_daysOf_63 ?_
      refine g_iload (pc := 65) C 0 rfl dX8_daysOf_65 ?_
      refine g_iconst (pc := 67) (v := 2) C dX8_daysOf_67 kc_2 ?_
      refine g_idiv (pc := 68) C dX8_daysOf_68 (by decide) ?_
      refine g_isub (pc := 69) C dX8_daysOf_69 ?_
      refine g_nmi (fun y12 => ?_)
      refine g_istore (pc := 70) C dX8_daysOf_70 (by decide) (lv' := [(5, .int y12), (4, .int y4), (0, .ref (w.2.1 (147))), (1, .int x1), (2, .int x2), (3, .int x3), (6, .int x6)]) rfl ?_
      refine g_iinc (pc := 72) C 1 rfl dX8_daysOf_72 (ki_m5 _) (by decide) (lv' := [(4, .int (y4 + (-5 : Int32))), (5, .int y12), (0, .ref (w.2.1 (147))), (1, .int x1), (2, .int x2), (3, .int x3), (6, .int x6)]) rfl ?_
      refine g_lv (lv' := [(0, .ref (w.2.1 (147))), (1, .int x1), (2, .int x2), (3, .int x3), (4, .int (y4 + (-5 : Int32))), (5, .int y12), (6, .int x6)]) [2, 3, 4, 5, 0, 1, 6] rfl ?_
      exact j_X8_daysOf_75 C hk15 x1 x2 x3 (y4 + (-5 : Int32)) y12 x6 h
    · refine g_lv (lv' := [(0, .ref (w.2.1 (147))), (1, .int x1), (2, .int x2), (3, .int x3), (4, .int y4), (5, .int y5), (6, .int x6)]) [2, 3, 4, 5, 1, 0, 6] rfl ?_
      exact j_X8_daysOf_75 C hk15 x1 x2 x3 y4 y5 x6 h
def f_X8_daysOf_15   : Nat → Int32 → Int32 → Int32 → Int32 → Int32 → Int32 → TT → Option (Int32 × TT)
  | 0, _, _, _, _, _, _, _ => none
  | n + 1, x1, x2, x3, x4, x5, x6, h => (if (60 : Int32) < x6 then some ((60 : Int32), h) else (if x6 < (5 : Int32) then f_X8_daysOf_40 (f_X8_daysOf_15 n) x1 x2 x3 x5 x6 (0 : Int32) (((3 : Int32) * x2) + x1) x4 h else f_X8_daysOf_40 (f_X8_daysOf_15 n) x1 x2 x3 x5 x6 (2 : Int32) (((3 : Int32) * x2) + x1) x4 h))
set_option maxRecDepth 20000 in
theorem j_X8_daysOf_15 {p : Program} {l : Launch} {e : Env} {R : Room} {s : State} {m : MethodId} {args : Array Value} {below : List Frame} {meth : Method} {c : Code} {w : WK} (C : CX p R s m args meth c w RX8 cX8_daysOf 7 (some .int) 0 0)     : ∀ (n : Nat) (x1 : Int32) (x2 : Int32) (x3 : Int32) (x4 : Int32) (x5 : Int32) (x6 : Int32) (h : TT), GO p l e R s m args below meth c w 7 fIT (f_X8_daysOf_15 n x1 x2 x3 x4 x5 x6 h) 15 [(0, .ref (w.2.1 (147))), (1, .int x1), (2, .int x2), (3, .int x3), (4, .int x4), (5, .int x5), (6, .int x6)] [] h := by
  intro n
  induction n with
  | zero =>
    intro x1 x2 x3 x4 x5 x6 h
    exact g_none
  | succ n ih =>
    intro x1 x2 x3 x4 x5 x6 h
    rw [f_X8_daysOf_15]
    refine g_iload (pc := 15) C 6 rfl dX8_daysOf_15 ?_
    refine g_bipush (pc := 17) (v := 60) C dX8_daysOf_17 kb_60 ?_
    refine g_icmp_gt (pc := 19) (tgt := 106) C dX8_daysOf_19 (by decide) (fun hc2 => ?_) (fun hc2 => ?_)
    · refine g_bipush (pc := 106) (v := 60) C dX8_daysOf_106 kb_60 ?_
      exact g_iretT C dX8_daysOf_108
    · refine g_iload (pc := 22) C 4 rfl dX8_daysOf_22 ?_
      refine g_iconst (pc := 24) (v := 3) C dX8_daysOf_24 kc_3 ?_
      refine g_iload_n (pc := 25) C 2 rfl dX8_daysOf_25 rfl ?_
      refine g_imul (pc := 26) C dX8_daysOf_26 ?_
      refine g_iload_n (pc := 27) C 1 rfl dX8_daysOf_27 rfl ?_
      refine g_iadd (pc := 28) C dX8_daysOf_28 ?_
      refine g_iload (pc := 29) C 6 rfl dX8_daysOf_29 ?_
      refine g_iconst (pc := 31) (v := 5) C dX8_daysOf_31 kc_5 ?_
      refine g_icmp_lt (pc := 32) (tgt := 39) C dX8_daysOf_32 (by decide) (fun hc3 => ?_) (fun hc3 => ?_)
      · refine g_iconst (pc := 39) (v := 0) C dX8_daysOf_39 kc_0 ?_
        refine g_lv (lv' := [(0, .ref (w.2.1 (147))), (1, .int x1), (2, .int x2), (3, .int x3), (5, .int x5), (6, .int x6)]) [0, 1, 2, 3, 5, 6] rfl ?_
        exact j_X8_daysOf_40 C ih x1 x2 x3 x5 x6 (0 : Int32) (((3 : Int32) * x2) + x1) x4 h
      · refine g_iconst (pc := 35) (v := 2) C dX8_daysOf_35 kc_2 ?_
        refine g_goto (pc := 36) (tgt := 40) C dX8_daysOf_36 (by decide) ?_
        refine g_lv (lv' := [(0, .ref (w.2.1 (147))), (1, .int x1), (2, .int x2), (3, .int x3), (5, .int x5), (6, .int x6)]) [0, 1, 2, 3, 5, 6] rfl ?_
        exact j_X8_daysOf_40 C ih x1 x2 x3 x5 x6 (2 : Int32) (((3 : Int32) * x2) + x1) x4 h
def f_X8_daysOf (h : TT) (x1 : Int32) (x2 : Int32) (x3 : Int32) : Option (Int32 × TT) := nm (wr h 147 27 (0 : Int32)) fun h1 => f_X8_daysOf_15 KF x1 x2 x3 (100 : Int32) (0 : Int32) (1 : Int32) h1
set_option maxRecDepth 20000 in
theorem m_X8_daysOf {l : Launch} {w : WK} {h : TT} {x1 : Int32} {x2 : Int32} {x3 : Int32} {x : (Int32 × TT)} (hx : f_X8_daysOf h x1 x2 x3 = some x)  : Met l yX8_daysOf (Cond.code yX8_daysOf cX8_daysOf 7 (some .int) :: wsG) { frames := 0, cells := 0, slots := 0, locals := 0 } (PG w [.ref (w.2.1 (147)), .int x1, .int x2, .int x3] h) (QG w (fIT x)) 0 0 (AA w) := by
  refine m_entry (own := RX8) (f := fIT) hx (by decide) rfl (Nat.le_of_ble_eq_true rfl) (fun p e s m args below meth c C => ?_)
  show GO p l e _ s m args below meth c w 7 fIT (f_X8_daysOf h x1 x2 x3) 0 [(0, .ref (w.2.1 (147))), (1, .int x1), (2, .int x2), (3, .int x3)] [] h
  unfold f_X8_daysOf
  refine g_bipush (pc := 0) (v := 100) C dX8_daysOf_0 kb_100 ?_
  refine g_istore (pc := 2) C dX8_daysOf_2 (by decide) (lv' := [(4, .int (100 : Int32)), (0, .ref (w.2.1 (147))), (1, .int x1), (2, .int x2), (3, .int x3)]) rfl ?_
  refine g_iconst (pc := 4) (v := 0) C dX8_daysOf_4 kc_0 ?_
  refine g_istore (pc := 5) C dX8_daysOf_5 (by decide) (lv' := [(5, .int (0 : Int32)), (4, .int (100 : Int32)), (0, .ref (w.2.1 (147))), (1, .int x1), (2, .int x2), (3, .int x3)]) rfl ?_
  refine g_aload_n (pc := 7) C 2 rfl dX8_daysOf_7 rfl ?_
  refine g_iconst (pc := 8) (v := 0) C dX8_daysOf_8 kc_0 ?_
  refine g_putI (pc := 9) C so_RX8 27 fp_RX8_304 (se_RX8_27 _) rfl rfl (sl_RX8_27) dX8_daysOf_9 ?_
  refine g_nm (fun h1 => ?_)
  refine g_iconst (pc := 12) (v := 1) C dX8_daysOf_12 kc_1 ?_
  refine g_istore (pc := 13) C dX8_daysOf_13 (by decide) (lv' := [(6, .int (1 : Int32)), (5, .int (0 : Int32)), (4, .int (100 : Int32)), (0, .ref (w.2.1 (147))), (1, .int x1), (2, .int x2), (3, .int x3)]) rfl ?_
  refine g_lv (lv' := [(0, .ref (w.2.1 (147))), (1, .int x1), (2, .int x2), (3, .int x3), (4, .int (100 : Int32)), (5, .int (0 : Int32)), (6, .int (1 : Int32))]) [3, 4, 5, 6, 2, 1, 0] rfl ?_
  exact j_X8_daysOf_15 C KF x1 x2 x3 (100 : Int32) (0 : Int32) (1 : Int32) h1
/-- SnowHouseModel.lasts(III)I -/
def f_X8_lasts (h : TT) (x1 : Int32) (x2 : Int32) (x3 : Int32) : Option (Int32 × TT) := (f_X8_isMany h x1).bind fun r1 => (if r1 = 0 then some ((-1 : Int32), h) else (f_X8_isMany h x2).bind fun r3 => (if r3 = 0 then some ((-1 : Int32), h) else (f_X8_in h x3 (0 : Int32) (9 : Int32)).bind fun r5 => (if r5 = 0 then some ((-1 : Int32), h) else (f_X8_daysOf h x1 x2 x3).bind fun q7 => nm (q7.1) fun y8 => (f_X8_tellsBy q7.2 (q7.2.1 147 27) y8).bind fun q9 => some (q9.1, q9.2))))
set_option maxRecDepth 20000 in
theorem m_X8_lasts {l : Launch} {w : WK} {h : TT} {x1 : Int32} {x2 : Int32} {x3 : Int32} {x : (Int32 × TT)} (hx : f_X8_lasts h x1 x2 x3 = some x)  : Met l yX8_lasts (Cond.code yX8_lasts cX8_lasts 5 (some .int) :: wsG) { frames := 2, cells := 0, slots := 0, locals := 42 } (PG w [.ref (w.2.1 (147)), .int x1, .int x2, .int x3] h) (QG w (fIT x)) 0 0 (AA w) := by
  refine m_entry (own := RX8) (f := fIT) hx (by decide) rfl (Nat.le_of_ble_eq_true rfl) (fun p e s m args below meth c C => ?_)
  show GO p l e _ s m args below meth c w 5 fIT (f_X8_lasts h x1 x2 x3) 0 [(0, .ref (w.2.1 (147))), (1, .int x1), (2, .int x2), (3, .int x3)] [] h
  unfold f_X8_lasts
  refine g_iload_n (pc := 0) C 1 rfl dX8_lasts_0 rfl ?_
  refine g_callI (pc := 1) (rest := []) (g_runS C ms_RX8_297 (fun x1 hx1 => m_X8_isMany hx1) (by decide) rfl rfl (Nat.le_of_ble_eq_true rfl) dX8_lasts_1) (fun r1 => ?_)
  refine g_if_eq (pc := 4) (tgt := 24) C dX8_lasts_4 (by decide) (fun hc2 => ?_) (fun hc2 => ?_)
  · refine g_iconst (pc := 24) (v := -1) C dX8_lasts_24 kc_m1 ?_
    exact g_iretT C dX8_lasts_25
  · refine g_iload_n (pc := 7) C 2 rfl dX8_lasts_7 rfl ?_
    refine g_callI (pc := 8) (rest := []) (g_runS C ms_RX8_297 (fun x1 hx1 => m_X8_isMany hx1) (by decide) rfl rfl (Nat.le_of_ble_eq_true rfl) dX8_lasts_8) (fun r3 => ?_)
    refine g_if_eq (pc := 11) (tgt := 24) C dX8_lasts_11 (by decide) (fun hc4 => ?_) (fun hc4 => ?_)
    · refine g_iconst (pc := 24) (v := -1) C dX8_lasts_24 kc_m1 ?_
      exact g_iretT C dX8_lasts_25
    · refine g_iload_n (pc := 14) C 3 rfl dX8_lasts_14 rfl ?_
      refine g_iconst (pc := 15) (v := 0) C dX8_lasts_15 kc_0 ?_
      refine g_bipush (pc := 16) (v := 9) C dX8_lasts_16 kb_9 ?_
      refine g_callI (pc := 18) (rest := []) (g_runS C ms_RX8_71 (fun x1 hx1 => m_X8_in hx1) (by decide) rfl rfl (Nat.le_of_ble_eq_true rfl) dX8_lasts_18) (fun r5 => ?_)
      refine g_if_ne (pc := 21) (tgt := 26) C dX8_lasts_21 (by decide) (fun hc6 => ?_) (fun hc6 => ?_)
      · refine g_iconst (pc := 24) (v := -1) C dX8_lasts_24 kc_m1 ?_
        exact g_iretT C dX8_lasts_25
      · refine g_aload_n (pc := 26) C 0 rfl dX8_lasts_26 rfl ?_
        refine g_iload_n (pc := 27) C 1 rfl dX8_lasts_27 rfl ?_
        refine g_iload_n (pc := 28) C 2 rfl dX8_lasts_28 rfl ?_
        refine g_iload_n (pc := 29) C 3 rfl dX8_lasts_29 rfl ?_
        refine g_callIT (pc := 30) (rest := []) (g_runV C mv_RX8_307 (fun x1 hx1 => m_X8_daysOf hx1) so_RX8 rfl (by decide) rfl rfl (Nat.le_of_ble_eq_true rfl) dX8_lasts_30) (fun q7 => ?_)
        refine g_nmi (fun y8 => ?_)
        refine g_istore (pc := 33) C dX8_lasts_33 (by decide) (lv' := [(4, .int y8), (0, .ref (w.2.1 (147))), (1, .int x1), (2, .int x2), (3, .int x3)]) rfl ?_
        refine g_aload_n (pc := 35) C 1 rfl dX8_lasts_35 rfl ?_
        refine g_aload_n (pc := 36) C 1 rfl dX8_lasts_36 rfl ?_
        refine g_get (pc := 37) C so_RX8 27 fl_RX8_304 (v := .int (q7.2.1 147 27)) rfl dX8_lasts_37 ?_
        refine g_iload (pc := 40) C 0 rfl dX8_lasts_40 ?_
        refine g_callIT (pc := 42) (rest := []) (g_runV C mv_RX8_93 (fun x1 hx1 => m_X8_tellsBy hx1) so_RX8 rfl (by decide) rfl rfl (Nat.le_of_ble_eq_true rfl) dX8_lasts_42) (fun q9 => ?_)
        exact g_iretT C dX8_lasts_45
/-- SnowHouseModel.scrape(II)I -/
def f_X8_scrape_54  (k24 : Int32 → Int32 → Int32 → Int32 → Int32 → TT → Option (Int32 × TT)) (x1 : Int32) (x2 : Int32) (x4 : Int32) (x5 : Int32) (x6 : Int32) (xs0 : Int32) (h : TT) : Option (Int32 × TT) := (f_X8_greater h x4 x6).bind fun r10 => k24 x1 x2 xs0 r10 (x5 + (1 : Int32)) h
set_option maxRecDepth 20000 in
theorem j_X8_scrape_54 {p : Program} {l : Launch} {e : Env} {R : Room} {s : State} {m : MethodId} {args : Array Value} {below : List Frame} {meth : Method} {c : Code} {w : WK} (C : CX p R s m args meth c w RX8 cX8_scrape 7 (some .int) 2 42)    {k24 : Int32 → Int32 → Int32 → Int32 → Int32 → TT → Option (Int32 × TT)} (hk24 : ∀ (x1 : Int32) (x2 : Int32) (x3 : Int32) (x4 : Int32) (x5 : Int32)  (h : TT), GO p l e R s m args below meth c w 7 fIT (k24 x1 x2 x3 x4 x5 h) 24 [(0, .ref (w.2.1 (147))), (1, .int x1), (2, .int x2), (3, .int x3), (4, .int x4), (5, .int x5)] [] h) (x1 : Int32) (x2 : Int32) (x4 : Int32) (x5 : Int32) (x6 : Int32) (xs0 : Int32)  (h : TT) : GO p l e R s m args below meth c w 7 fIT (f_X8_scrape_54 k24 x1 x2 x4 x5 x6 xs0 h) 54 [(0, .ref (w.2.1 (147))), (1, .int x1), (2, .int x2), (4, .int x4), (5, .int x5), (6, .int x6)] [.int xs0] h := by
  unfold f_X8_scrape_54
  refine g_istore_n (pc := 54) C dX8_scrape_54 rfl (by decide) (lv' := [(3, .int xs0), (0, .ref (w.2.1 (147))), (1, .int x1), (2, .int x2), (4, .int x4), (5, .int x5), (6, .int x6)]) rfl ?_
  refine g_iload (pc := 55) C 4 rfl dX8_scrape_55 ?_
  refine g_iload (pc := 57) C 6 rfl dX8_scrape_57 ?_
  refine g_callI (pc := 59) (rest := []) (g_runS C ms_RX8_284 (fun x1 hx1 => m_X8_greater hx1) (by decide) rfl rfl (Nat.le_of_ble_eq_true rfl) dX8_scrape_59) (fun r10 => ?_)
  refine g_istore (pc := 62) C dX8_scrape_62 (by decide) (lv' := [(4, .int r10), (3, .int xs0), (0, .ref (w.2.1 (147))), (1, .int x1), (2, .int x2), (5, .int x5), (6, .int x6)]) rfl ?_
  refine g_iinc (pc := 64) C 5 rfl dX8_scrape_64 (ki_1 _) (by decide) (lv' := [(5, .int (x5 + (1 : Int32))), (4, .int r10), (3, .int xs0), (0, .ref (w.2.1 (147))), (1, .int x1), (2, .int x2), (6, .int x6)]) rfl ?_
  refine g_goto (pc := 67) (tgt := 24) C dX8_scrape_67 (by decide) ?_
  refine g_lv (lv' := [(0, .ref (w.2.1 (147))), (1, .int x1), (2, .int x2), (3, .int xs0), (4, .int r10), (5, .int (x5 + (1 : Int32)))]) [3, 4, 5, 2, 1, 0] rfl ?_
  exact hk24 x1 x2 xs0 r10 (x5 + (1 : Int32)) h
def f_X8_scrape_24   : Nat → Int32 → Int32 → Int32 → Int32 → Int32 → TT → Option (Int32 × TT)
  | 0, _, _, _, _, _, _ => none
  | n + 1, x1, x2, x3, x4, x5, h => (if (9 : Int32) < x5 then (f_X8_tellsBy h x4 x3).bind fun q6 => some (q6.1, q6.2) else (f_X8_daysOf h x1 x2 x5).bind fun q7 => nm (q7.1) fun y8 => (if y8 ≤ x4 then f_X8_scrape_54 (f_X8_scrape_24 n) x1 x2 x4 x5 y8 x3 q7.2 else f_X8_scrape_54 (f_X8_scrape_24 n) x1 x2 x4 x5 y8 x5 q7.2))
set_option maxRecDepth 20000 in
theorem j_X8_scrape_24 {p : Program} {l : Launch} {e : Env} {R : Room} {s : State} {m : MethodId} {args : Array Value} {below : List Frame} {meth : Method} {c : Code} {w : WK} (C : CX p R s m args meth c w RX8 cX8_scrape 7 (some .int) 2 42)     : ∀ (n : Nat) (x1 : Int32) (x2 : Int32) (x3 : Int32) (x4 : Int32) (x5 : Int32) (h : TT), GO p l e R s m args below meth c w 7 fIT (f_X8_scrape_24 n x1 x2 x3 x4 x5 h) 24 [(0, .ref (w.2.1 (147))), (1, .int x1), (2, .int x2), (3, .int x3), (4, .int x4), (5, .int x5)] [] h := by
  intro n
  induction n with
  | zero =>
    intro x1 x2 x3 x4 x5 h
    exact g_none
  | succ n ih =>
    intro x1 x2 x3 x4 x5 h
    rw [f_X8_scrape_24]
    refine g_iload (pc := 24) C 5 rfl dX8_scrape_24 ?_
    refine g_bipush (pc := 26) (v := 9) C dX8_scrape_26 kb_9 ?_
    refine g_icmp_gt (pc := 28) (tgt := 70) C dX8_scrape_28 (by decide) (fun hc5 => ?_) (fun hc5 => ?_)
    · refine g_aload_n (pc := 70) C 0 rfl dX8_scrape_70 rfl ?_
      refine g_iload (pc := 71) C 4 rfl dX8_scrape_71 ?_
      refine g_iload_n (pc := 73) C 3 rfl dX8_scrape_73 rfl ?_
      refine g_callIT (pc := 74) (rest := []) (g_runV C mv_RX8_93 (fun x1 hx1 => m_X8_tellsBy hx1) so_RX8 rfl (by decide) rfl rfl (Nat.le_of_ble_eq_true rfl) dX8_scrape_74) (fun q6 => ?_)
      exact g_iretT C dX8_scrape_77
    · refine g_aload_n (pc := 31) C 0 rfl dX8_scrape_31 rfl ?_
      refine g_iload_n (pc := 32) C 1 rfl dX8_scrape_32 rfl ?_
      refine g_iload_n (pc := 33) C 2 rfl dX8_scrape_33 rfl ?_
      refine g_iload (pc := 34) C 5 rfl dX8_scrape_34 ?_
      refine g_callIT (pc := 36) (rest := []) (g_runV C mv_RX8_307 (fun x1 hx1 => m_X8_daysOf hx1) so_RX8 rfl (by decide) rfl rfl (Nat.le_of_ble_eq_true rfl) dX8_scrape_36) (fun q7 => ?_)
      refine g_nmi (fun y8 => ?_)
      refine g_istore (pc := 39) C dX8_scrape_39 (by decide) (lv' := [(6, .int y8), (0, .ref (w.2.1 (147))), (1, .int x1), (2, .int x2), (3, .int x3), (4, .int x4), (5, .int x5)]) rfl ?_
      refine g_iload (pc := 41) C 0 rfl dX8_scrape_41 ?_
      refine g_iload (pc := 43) C 5 rfl dX8_scrape_43 ?_
      refine g_icmp_le (pc := 45) (tgt := 53) C dX8_scrape_45 (by decide) (fun hc9 => ?_) (fun hc9 => ?_)
      · refine g_iload_n (pc := 53) C 4 rfl dX8_scrape_53 rfl ?_
        refine g_lv (lv' := [(0, .ref (w.2.1 (147))), (1, .int x1), (2, .int x2), (4, .int x4), (5, .int x5), (6, .int y8)]) [1, 2, 3, 5, 6, 0] rfl ?_
        exact j_X8_scrape_54 C ih x1 x2 x4 x5 y8 x3 q7.2
      · refine g_iload (pc := 48) C 6 rfl dX8_scrape_48 ?_
        refine g_goto (pc := 50) (tgt := 54) C dX8_scrape_50 (by decide) ?_
        refine g_lv (lv' := [(0, .ref (w.2.1 (147))), (1, .int x1), (2, .int x2), (4, .int x4), (5, .int x5), (6, .int y8)]) [1, 2, 3, 5, 6, 0] rfl ?_
        exact j_X8_scrape_54 C ih x1 x2 x4 x5 y8 x5 q7.2
def f_X8_scrape (h : TT) (x1 : Int32) (x2 : Int32) : Option (Int32 × TT) := (f_X8_isMany h x1).bind fun r1 => (if r1 = 0 then some ((-1 : Int32), h) else (f_X8_isMany h x2).bind fun r3 => (if r3 = 0 then some ((-1 : Int32), h) else f_X8_scrape_24 KF x1 x2 (0 : Int32) (-1 : Int32) (0 : Int32) h))
set_option maxRecDepth 20000 in
theorem m_X8_scrape {l : Launch} {w : WK} {h : TT} {x1 : Int32} {x2 : Int32} {x : (Int32 × TT)} (hx : f_X8_scrape h x1 x2 = some x)  : Met l yX8_scrape (Cond.code yX8_scrape cX8_scrape 7 (some .int) :: wsG) { frames := 2, cells := 0, slots := 0, locals := 42 } (PG w [.ref (w.2.1 (147)), .int x1, .int x2] h) (QG w (fIT x)) 0 0 (AA w) := by
  refine m_entry (own := RX8) (f := fIT) hx (by decide) rfl (Nat.le_of_ble_eq_true rfl) (fun p e s m args below meth c C => ?_)
  show GO p l e _ s m args below meth c w 7 fIT (f_X8_scrape h x1 x2) 0 [(0, .ref (w.2.1 (147))), (1, .int x1), (2, .int x2)] [] h
  unfold f_X8_scrape
  refine g_iload_n (pc := 0) C 1 rfl dX8_scrape_0 rfl ?_
  refine g_callI (pc := 1) (rest := []) (g_runS C ms_RX8_297 (fun x1 hx1 => m_X8_isMany hx1) (by decide) rfl rfl (Nat.le_of_ble_eq_true rfl) dX8_scrape_1) (fun r1 => ?_)
  refine g_if_eq (pc := 4) (tgt := 14) C dX8_scrape_4 (by decide) (fun hc2 => ?_) (fun hc2 => ?_)
  · refine g_iconst (pc := 14) (v := -1) C dX8_scrape_14 kc_m1 ?_
    exact g_iretT C dX8_scrape_15
  · refine g_iload_n (pc := 7) C 2 rfl dX8_scrape_7 rfl ?_
    refine g_callI (pc := 8) (rest := []) (g_runS C ms_RX8_297 (fun x1 hx1 => m_X8_isMany hx1) (by decide) rfl rfl (Nat.le_of_ble_eq_true rfl) dX8_scrape_8) (fun r3 => ?_)
    refine g_if_ne (pc := 11) (tgt := 16) C dX8_scrape_11 (by decide) (fun hc4 => ?_) (fun hc4 => ?_)
    · refine g_iconst (pc := 14) (v := -1) C dX8_scrape_14 kc_m1 ?_
      exact g_iretT C dX8_scrape_15
    · refine g_iconst (pc := 16) (v := 0) C dX8_scrape_16 kc_0 ?_
      refine g_istore_n (pc := 17) C dX8_scrape_17 rfl (by decide) (lv' := [(3, .int (0 : Int32)), (0, .ref (w.2.1 (147))), (1, .int x1), (2, .int x2)]) rfl ?_
      refine g_iconst (pc := 18) (v := -1) C dX8_scrape_18 kc_m1 ?_
      refine g_istore (pc := 19) C dX8_scrape_19 (by decide) (lv' := [(4, .int (-1 : Int32)), (3, .int (0 : Int32)), (0, .ref (w.2.1 (147))), (1, .int x1), (2, .int x2)]) rfl ?_
      refine g_iconst (pc := 21) (v := 0) C dX8_scrape_21 kc_0 ?_
      refine g_istore (pc := 22) C dX8_scrape_22 (by decide) (lv' := [(5, .int (0 : Int32)), (4, .int (-1 : Int32)), (3, .int (0 : Int32)), (0, .ref (w.2.1 (147))), (1, .int x1), (2, .int x2)]) rfl ?_
      refine g_lv (lv' := [(0, .ref (w.2.1 (147))), (1, .int x1), (2, .int x2), (3, .int (0 : Int32)), (4, .int (-1 : Int32)), (5, .int (0 : Int32))]) [3, 4, 5, 2, 1, 0] rfl ?_
      exact j_X8_scrape_24 C KF x1 x2 (0 : Int32) (-1 : Int32) (0 : Int32) h
/-- SnowHouseModel.counted(I)I -/
def f_X8_counted_212   (x2 : Int32) (h : TT) : Option (Int32 × TT) := some (x2, h)
set_option maxRecDepth 20000 in
theorem j_X8_counted_212 {p : Program} {l : Launch} {e : Env} {R : Room} {s : State} {m : MethodId} {args : Array Value} {below : List Frame} {meth : Method} {c : Code} {w : WK} (C : CX p R s m args meth c w RX8 cX8_counted 4 (some .int) 3 64)     (x2 : Int32)  (h : TT) : GO p l e R s m args below meth c w 4 fIT (f_X8_counted_212 x2 h) 212 [(2, .int x2)] [] h := by
  unfold f_X8_counted_212
  refine g_iload_n (pc := 212) C 0 rfl dX8_counted_212 rfl ?_
  exact g_iretT C dX8_counted_213
def f_X8_counted_204  (k166 : Int32 → Int32 → Int32 → TT → Option (Int32 × TT)) (x1 : Int32) (x3 : Int32) (xs0 : Int32) (xs1 : Int32) (h : TT) : Option (Int32 × TT) := nm (xs1 + xs0) fun y16 => k166 x1 y16 (x3 + (1 : Int32)) h
set_option maxRecDepth 20000 in
theorem j_X8_counted_204 {p : Program} {l : Launch} {e : Env} {R : Room} {s : State} {m : MethodId} {args : Array Value} {below : List Frame} {meth : Method} {c : Code} {w : WK} (C : CX p R s m args meth c w RX8 cX8_counted 4 (some .int) 3 64)    {k166 : Int32 → Int32 → Int32 → TT → Option (Int32 × TT)} (hk166 : ∀ (x1 : Int32) (x2 : Int32) (x3 : Int32)  (h : TT), GO p l e R s m args below meth c w 4 fIT (k166 x1 x2 x3 h) 166 [(0, .ref (w.2.1 (147))), (1, .int x1), (2, .int x2), (3, .int x3)] [] h) (x1 : Int32) (x3 : Int32) (xs0 : Int32) (xs1 : Int32)  (h : TT) : GO p l e R s m args below meth c w 4 fIT (f_X8_counted_204 k166 x1 x3 xs0 xs1 h) 204 [(0, .ref (w.2.1 (147))), (1, .int x1), (3, .int x3)] [.int xs0, .int xs1] h := by
  unfold f_X8_counted_204
  refine g_iadd (pc := 204) C dX8_counted_204 ?_
  refine g_nmi (fun y16 => ?_)
  refine g_istore_n (pc := 205) C dX8_counted_205 rfl (by decide) (lv' := [(2, .int y16), (0, .ref (w.2.1 (147))), (1, .int x1), (3, .int x3)]) rfl ?_
  refine g_iinc (pc := 206) C 3 rfl dX8_counted_206 (ki_1 _) (by decide) (lv' := [(3, .int (x3 + (1 : Int32))), (2, .int y16), (0, .ref (w.2.1 (147))), (1, .int x1)]) rfl ?_
  refine g_goto (pc := 209) (tgt := 166) C dX8_counted_209 (by decide) ?_
  refine g_lv (lv' := [(0, .ref (w.2.1 (147))), (1, .int x1), (2, .int y16), (3, .int (x3 + (1 : Int32)))]) [2, 3, 1, 0] rfl ?_
  exact hk166 x1 y16 (x3 + (1 : Int32)) h
def f_X8_counted_203  (k166 : Int32 → Int32 → Int32 → TT → Option (Int32 × TT)) (x1 : Int32) (x3 : Int32) (xs0 : Int32) (h : TT) : Option (Int32 × TT) := f_X8_counted_204 k166 x1 x3 (0 : Int32) xs0 h
set_option maxRecDepth 20000 in
theorem j_X8_counted_203 {p : Program} {l : Launch} {e : Env} {R : Room} {s : State} {m : MethodId} {args : Array Value} {below : List Frame} {meth : Method} {c : Code} {w : WK} (C : CX p R s m args meth c w RX8 cX8_counted 4 (some .int) 3 64)    {k166 : Int32 → Int32 → Int32 → TT → Option (Int32 × TT)} (hk166 : ∀ (x1 : Int32) (x2 : Int32) (x3 : Int32)  (h : TT), GO p l e R s m args below meth c w 4 fIT (k166 x1 x2 x3 h) 166 [(0, .ref (w.2.1 (147))), (1, .int x1), (2, .int x2), (3, .int x3)] [] h) (x1 : Int32) (x3 : Int32) (xs0 : Int32)  (h : TT) : GO p l e R s m args below meth c w 4 fIT (f_X8_counted_203 k166 x1 x3 xs0 h) 203 [(0, .ref (w.2.1 (147))), (1, .int x1), (3, .int x3)] [.int xs0] h := by
  unfold f_X8_counted_203
  refine g_iconst (pc := 203) (v := 0) C dX8_counted_203 kc_0 ?_
  exact j_X8_counted_204 C hk166 x1 x3 (0 : Int32) xs0 h
def f_X8_counted_166   : Nat → Int32 → Int32 → Int32 → TT → Option (Int32 × TT)
  | 0, _, _, _, _ => none
  | n + 1, x1, x2, x3, h => (f_X8_size h (0 : Int32)).bind fun r9 => (if r9 ≤ x3 then f_X8_counted_212 x2 h else (f_X8_v h (31 : Int32)).bind fun r11 => (if r11 ≤ x3 then f_X8_counted_212 x2 h else (if x1 = (4 : Int32) then (f_X8_hasSlumped h x3).bind fun r14 => (if r14 = 0 then f_X8_counted_204 (f_X8_counted_166 n) x1 x3 (1 : Int32) x2 h else f_X8_counted_203 (f_X8_counted_166 n) x1 x3 x2 h) else f_X8_counted_203 (f_X8_counted_166 n) x1 x3 x2 h)))
set_option maxRecDepth 20000 in
theorem j_X8_counted_166 {p : Program} {l : Launch} {e : Env} {R : Room} {s : State} {m : MethodId} {args : Array Value} {below : List Frame} {meth : Method} {c : Code} {w : WK} (C : CX p R s m args meth c w RX8 cX8_counted 4 (some .int) 3 64)     : ∀ (n : Nat) (x1 : Int32) (x2 : Int32) (x3 : Int32) (h : TT), GO p l e R s m args below meth c w 4 fIT (f_X8_counted_166 n x1 x2 x3 h) 166 [(0, .ref (w.2.1 (147))), (1, .int x1), (2, .int x2), (3, .int x3)] [] h := by
  intro n
  induction n with
  | zero =>
    intro x1 x2 x3 h
    exact g_none
  | succ n ih =>
    intro x1 x2 x3 h
    rw [f_X8_counted_166]
    refine g_iload_n (pc := 166) C 3 rfl dX8_counted_166 rfl ?_
    refine g_aload_n (pc := 167) C 0 rfl dX8_counted_167 rfl ?_
    refine g_iconst (pc := 168) (v := 0) C dX8_counted_168 kc_0 ?_
    refine g_callI (pc := 169) (rest := [.int x3]) (g_runV C mv_RX8_157 (fun x1 hx1 => m_X8_size hx1) so_RX8 rfl (by decide) rfl rfl (Nat.le_of_ble_eq_true rfl) dX8_counted_169) (fun r9 => ?_)
    refine g_icmp_ge (pc := 172) (tgt := 212) C dX8_counted_172 (by decide) (fun hc10 => ?_) (fun hc10 => ?_)
    · refine g_lv (lv' := [(2, .int x2)]) [2] rfl ?_
      exact j_X8_counted_212 C x2 h
    · refine g_iload_n (pc := 175) C 3 rfl dX8_counted_175 rfl ?_
      refine g_aload_n (pc := 176) C 0 rfl dX8_counted_176 rfl ?_
      refine g_bipush (pc := 177) (v := 31) C dX8_counted_177 kb_31 ?_
      refine g_callI (pc := 179) (rest := [.int x3]) (g_runV C mv_RX8_154 (fun x1 hx1 => m_X8_v hx1) so_RX8 rfl (by decide) rfl rfl (Nat.le_of_ble_eq_true rfl) dX8_counted_179) (fun r11 => ?_)
      refine g_icmp_ge (pc := 182) (tgt := 212) C dX8_counted_182 (by decide) (fun hc12 => ?_) (fun hc12 => ?_)
      · refine g_lv (lv' := [(2, .int x2)]) [2] rfl ?_
        exact j_X8_counted_212 C x2 h
      · refine g_iload_n (pc := 185) C 2 rfl dX8_counted_185 rfl ?_
        refine g_iload_n (pc := 186) C 1 rfl dX8_counted_186 rfl ?_
        refine g_iconst (pc := 187) (v := 4) C dX8_counted_187 kc_4 ?_
        refine g_icmp_ne (pc := 188) (tgt := 203) C dX8_counted_188 (by decide) (fun hc13 => ?_) (fun hc13 => ?_)
        · refine g_aload_n (pc := 191) C 0 rfl dX8_counted_191 rfl ?_
          refine g_iload_n (pc := 192) C 3 rfl dX8_counted_192 rfl ?_
          refine g_callI (pc := 193) (rest := [.int x2]) (g_runV C mv_RX8_185 (fun x1 hx1 => m_X8_hasSlumped hx1) so_RX8 rfl (by decide) rfl rfl (Nat.le_of_ble_eq_true rfl) dX8_counted_193) (fun r14 => ?_)
          refine g_if_ne (pc := 196) (tgt := 203) C dX8_counted_196 (by decide) (fun hc15 => ?_) (fun hc15 => ?_)
          · refine g_iconst (pc := 199) (v := 1) C dX8_counted_199 kc_1 ?_
            refine g_goto (pc := 200) (tgt := 204) C dX8_counted_200 (by decide) ?_
            refine g_lv (lv' := [(0, .ref (w.2.1 (147))), (1, .int x1), (3, .int x3)]) [0, 1, 3] rfl ?_
            exact j_X8_counted_204 C ih x1 x3 (1 : Int32) x2 h
          · refine g_lv (lv' := [(0, .ref (w.2.1 (147))), (1, .int x1), (3, .int x3)]) [0, 1, 3] rfl ?_
            exact j_X8_counted_203 C ih x1 x3 x2 h
        · refine g_lv (lv' := [(0, .ref (w.2.1 (147))), (1, .int x1), (3, .int x3)]) [0, 1, 3] rfl ?_
          exact j_X8_counted_203 C ih x1 x3 x2 h
def f_X8_counted_162   (x1 : Int32) (xs0 : Int32) (xs1 : Int32) (h : TT) : Option (Int32 × TT) := nm (xs1 + xs0) fun y8 => f_X8_counted_166 KF x1 y8 (0 : Int32) h
set_option maxRecDepth 20000 in
theorem j_X8_counted_162 {p : Program} {l : Launch} {e : Env} {R : Room} {s : State} {m : MethodId} {args : Array Value} {below : List Frame} {meth : Method} {c : Code} {w : WK} (C : CX p R s m args meth c w RX8 cX8_counted 4 (some .int) 3 64)     (x1 : Int32) (xs0 : Int32) (xs1 : Int32)  (h : TT) : GO p l e R s m args below meth c w 4 fIT (f_X8_counted_162 x1 xs0 xs1 h) 162 [(0, .ref (w.2.1 (147))), (1, .int x1)] [.int xs0, .int xs1] h := by
  unfold f_X8_counted_162
  refine g_iadd (pc := 162) C dX8_counted_162 ?_
  refine g_nmi (fun y8 => ?_)
  refine g_istore_n (pc := 163) C dX8_counted_163 rfl (by decide) (lv' := [(2, .int y8), (0, .ref (w.2.1 (147))), (1, .int x1)]) rfl ?_
  refine g_iconst (pc := 164) (v := 0) C dX8_counted_164 kc_0 ?_
  refine g_istore_n (pc := 165) C dX8_counted_165 rfl (by decide) (lv' := [(3, .int (0 : Int32)), (2, .int y8), (0, .ref (w.2.1 (147))), (1, .int x1)]) rfl ?_
  refine g_lv (lv' := [(0, .ref (w.2.1 (147))), (1, .int x1), (2, .int y8), (3, .int (0 : Int32))]) [2, 3, 1, 0] rfl ?_
  exact j_X8_counted_166 C KF x1 y8 (0 : Int32) h
def f_X8_counted_112  (k85 : Int32 → Int32 → Int32 → TT → Option (Int32 × TT)) (x1 : Int32) (x3 : Int32) (xs0 : Int32) (xs1 : Int32) (h : TT) : Option (Int32 × TT) := nm (xs1 + xs0) fun y22 => k85 x1 y22 (x3 + (1 : Int32)) h
set_option maxRecDepth 20000 in
theorem j_X8_counted_112 {p : Program} {l : Launch} {e : Env} {R : Room} {s : State} {m : MethodId} {args : Array Value} {below : List Frame} {meth : Method} {c : Code} {w : WK} (C : CX p R s m args meth c w RX8 cX8_counted 4 (some .int) 3 64)    {k85 : Int32 → Int32 → Int32 → TT → Option (Int32 × TT)} (hk85 : ∀ (x1 : Int32) (x2 : Int32) (x3 : Int32)  (h : TT), GO p l e R s m args below meth c w 4 fIT (k85 x1 x2 x3 h) 85 [(0, .ref (w.2.1 (147))), (1, .int x1), (2, .int x2), (3, .int x3)] [] h) (x1 : Int32) (x3 : Int32) (xs0 : Int32) (xs1 : Int32)  (h : TT) : GO p l e R s m args below meth c w 4 fIT (f_X8_counted_112 k85 x1 x3 xs0 xs1 h) 112 [(0, .ref (w.2.1 (147))), (1, .int x1), (3, .int x3)] [.int xs0, .int xs1] h := by
  unfold f_X8_counted_112
  refine g_iadd (pc := 112) C dX8_counted_112 ?_
  refine g_nmi (fun y22 => ?_)
  refine g_istore_n (pc := 113) C dX8_counted_113 rfl (by decide) (lv' := [(2, .int y22), (0, .ref (w.2.1 (147))), (1, .int x1), (3, .int x3)]) rfl ?_
  refine g_iinc (pc := 114) C 3 rfl dX8_counted_114 (ki_1 _) (by decide) (lv' := [(3, .int (x3 + (1 : Int32))), (2, .int y22), (0, .ref (w.2.1 (147))), (1, .int x1)]) rfl ?_
  refine g_goto (pc := 117) (tgt := 85) C dX8_counted_117 (by decide) ?_
  refine g_lv (lv' := [(0, .ref (w.2.1 (147))), (1, .int x1), (2, .int y22), (3, .int (x3 + (1 : Int32)))]) [2, 3, 1, 0] rfl ?_
  exact hk85 x1 y22 (x3 + (1 : Int32)) h
def f_X8_counted_111  (k85 : Int32 → Int32 → Int32 → TT → Option (Int32 × TT)) (x1 : Int32) (x3 : Int32) (xs0 : Int32) (h : TT) : Option (Int32 × TT) := f_X8_counted_112 k85 x1 x3 (0 : Int32) xs0 h
set_option maxRecDepth 20000 in
theorem j_X8_counted_111 {p : Program} {l : Launch} {e : Env} {R : Room} {s : State} {m : MethodId} {args : Array Value} {below : List Frame} {meth : Method} {c : Code} {w : WK} (C : CX p R s m args meth c w RX8 cX8_counted 4 (some .int) 3 64)    {k85 : Int32 → Int32 → Int32 → TT → Option (Int32 × TT)} (hk85 : ∀ (x1 : Int32) (x2 : Int32) (x3 : Int32)  (h : TT), GO p l e R s m args below meth c w 4 fIT (k85 x1 x2 x3 h) 85 [(0, .ref (w.2.1 (147))), (1, .int x1), (2, .int x2), (3, .int x3)] [] h) (x1 : Int32) (x3 : Int32) (xs0 : Int32)  (h : TT) : GO p l e R s m args below meth c w 4 fIT (f_X8_counted_111 k85 x1 x3 xs0 h) 111 [(0, .ref (w.2.1 (147))), (1, .int x1), (3, .int x3)] [.int xs0] h := by
  unfold f_X8_counted_111
  refine g_iconst (pc := 111) (v := 0) C dX8_counted_111 kc_0 ?_
  exact j_X8_counted_112 C hk85 x1 x3 (0 : Int32) xs0 h
def f_X8_counted_85   : Nat → Int32 → Int32 → Int32 → TT → Option (Int32 × TT)
  | 0, _, _, _, _ => none
  | n + 1, x1, x2, x3, h => (if (6 : Int32) ≤ x3 then (f_X8_look h (0 : Int32)).bind fun h3 => if inb (0 : Int32) 4 = true then (if (h3.1 160 (0 : Int32).toNatClampNeg) = 0 then f_X8_counted_212 x2 h3 else (if x1 = (2 : Int32) then (f_X8_v h3 (31 : Int32)).bind fun r7 => f_X8_counted_162 x1 r7 x2 h3 else (if x1 = (3 : Int32) then (f_X8_slumpedMany h3).bind fun r18 => f_X8_counted_162 x1 r18 x2 h3 else f_X8_counted_162 x1 (0 : Int32) x2 h3))) else none else (if x1 = (6 : Int32) then if inb x3 6 = true then (if (h.1 149 x3.toNatClampNeg) < 0 then f_X8_counted_111 (f_X8_counted_85 n) x1 x3 x2 h else f_X8_counted_112 (f_X8_counted_85 n) x1 x3 (1 : Int32) x2 h) else none else f_X8_counted_111 (f_X8_counted_85 n) x1 x3 x2 h))
set_option maxRecDepth 20000 in
theorem j_X8_counted_85 {p : Program} {l : Launch} {e : Env} {R : Room} {s : State} {m : MethodId} {args : Array Value} {below : List Frame} {meth : Method} {c : Code} {w : WK} (C : CX p R s m args meth c w RX8 cX8_counted 4 (some .int) 3 64)     : ∀ (n : Nat) (x1 : Int32) (x2 : Int32) (x3 : Int32) (h : TT), GO p l e R s m args below meth c w 4 fIT (f_X8_counted_85 n x1 x2 x3 h) 85 [(0, .ref (w.2.1 (147))), (1, .int x1), (2, .int x2), (3, .int x3)] [] h := by
  intro n
  induction n with
  | zero =>
    intro x1 x2 x3 h
    exact g_none
  | succ n ih =>
    intro x1 x2 x3 h
    rw [f_X8_counted_85]
    refine g_iload_n (pc := 85) C 3 rfl dX8_counted_85 rfl ?_
    refine g_bipush (pc := 86) (v := 6) C dX8_counted_86 kb_6 ?_
    refine g_icmp_ge (pc := 88) (tgt := 120) C dX8_counted_88 (by decide) (fun hc2 => ?_) (fun hc2 => ?_)
    · refine g_aload_n (pc := 120) C 0 rfl dX8_counted_120 rfl ?_
      refine g_iconst (pc := 121) (v := 0) C dX8_counted_121 kc_0 ?_
      refine g_callV (pc := 122) (rest := []) (g_runV C mv_RX8_167 (fun x1 hx1 => m_X8_look hx1) so_RX8 rfl (by decide) rfl rfl (Nat.le_of_ble_eq_true rfl) dX8_counted_122) (fun h3 => ?_)
      refine g_aload_n (pc := 125) C 0 rfl dX8_counted_125 rfl ?_
      refine g_get (pc := 126) C so_RX8 20 fl_RX8_48 (v := .ref (w.2.1 (160))) rfl dX8_counted_126 ?_
      refine g_iconst (pc := 129) (v := 0) C dX8_counted_129 kc_0 ?_
      refine g_zald (pc := 130) C sz_160 dX8_counted_130 (fun hb4 => ?_)
      refine g_if_eq (pc := 131) (tgt := 212) C dX8_counted_131 (by decide) (fun hc5 => ?_) (fun hc5 => ?_)
      · refine g_lv (lv' := [(2, .int x2)]) [2] rfl ?_
        exact j_X8_counted_212 C x2 h3
      · refine g_iload_n (pc := 134) C 2 rfl dX8_counted_134 rfl ?_
        refine g_iload_n (pc := 135) C 1 rfl dX8_counted_135 rfl ?_
        refine g_iconst (pc := 136) (v := 2) C dX8_counted_136 kc_2 ?_
        refine g_icmp_ne (pc := 137) (tgt := 149) C dX8_counted_137 (by decide) (fun hc6 => ?_) (fun hc6 => ?_)
        · refine g_aload_n (pc := 140) C 0 rfl dX8_counted_140 rfl ?_
          refine g_bipush (pc := 141) (v := 31) C dX8_counted_141 kb_31 ?_
          refine g_callI (pc := 143) (rest := [.int x2]) (g_runV C mv_RX8_154 (fun x1 hx1 => m_X8_v hx1) so_RX8 rfl (by decide) rfl rfl (Nat.le_of_ble_eq_true rfl) dX8_counted_143) (fun r7 => ?_)
          refine g_goto (pc := 146) (tgt := 162) C dX8_counted_146 (by decide) ?_
          refine g_lv (lv' := [(0, .ref (w.2.1 (147))), (1, .int x1)]) [0, 1] rfl ?_
          exact j_X8_counted_162 C x1 r7 x2 h3
        · refine g_iload_n (pc := 149) C 1 rfl dX8_counted_149 rfl ?_
          refine g_iconst (pc := 150) (v := 3) C dX8_counted_150 kc_3 ?_
          refine g_icmp_ne (pc := 151) (tgt := 161) C dX8_counted_151 (by decide) (fun hc17 => ?_) (fun hc17 => ?_)
          · refine g_aload_n (pc := 154) C 0 rfl dX8_counted_154 rfl ?_
            refine g_callI (pc := 155) (rest := [.int x2]) (g_runV C mv_RX8_248 (fun x1 hx1 => m_X8_slumpedMany hx1) so_RX8 rfl (by decide) rfl rfl (Nat.le_of_ble_eq_true rfl) dX8_counted_155) (fun r18 => ?_)
            refine g_goto (pc := 158) (tgt := 162) C dX8_counted_158 (by decide) ?_
            refine g_lv (lv' := [(0, .ref (w.2.1 (147))), (1, .int x1)]) [0, 1] rfl ?_
            exact j_X8_counted_162 C x1 r18 x2 h3
          · refine g_iconst (pc := 161) (v := 0) C dX8_counted_161 kc_0 ?_
            refine g_lv (lv' := [(0, .ref (w.2.1 (147))), (1, .int x1)]) [0, 1] rfl ?_
            exact j_X8_counted_162 C x1 (0 : Int32) x2 h3
    · refine g_iload_n (pc := 91) C 2 rfl dX8_counted_91 rfl ?_
      refine g_iload_n (pc := 92) C 1 rfl dX8_counted_92 rfl ?_
      refine g_bipush (pc := 93) (v := 6) C dX8_counted_93 kb_6 ?_
      refine g_icmp_ne (pc := 95) (tgt := 111) C dX8_counted_95 (by decide) (fun hc19 => ?_) (fun hc19 => ?_)
      · refine g_aload_n (pc := 98) C 0 rfl dX8_counted_98 rfl ?_
        refine g_get (pc := 99) C so_RX8 5 fl_RX8_13 (v := .ref (w.2.1 (149))) rfl dX8_counted_99 ?_
        refine g_iload_n (pc := 102) C 3 rfl dX8_counted_102 rfl ?_
        refine g_iald (pc := 103) C si_149 dX8_counted_103 (fun hb20 => ?_)
        refine g_if_lt (pc := 104) (tgt := 111) C dX8_counted_104 (by decide) (fun hc21 => ?_) (fun hc21 => ?_)
        · refine g_lv (lv' := [(0, .ref (w.2.1 (147))), (1, .int x1), (3, .int x3)]) [0, 1, 3] rfl ?_
          exact j_X8_counted_111 C ih x1 x3 x2 h
        · refine g_iconst (pc := 107) (v := 1) C dX8_counted_107 kc_1 ?_
          refine g_goto (pc := 108) (tgt := 112) C dX8_counted_108 (by decide) ?_
          refine g_lv (lv' := [(0, .ref (w.2.1 (147))), (1, .int x1), (3, .int x3)]) [0, 1, 3] rfl ?_
          exact j_X8_counted_112 C ih x1 x3 (1 : Int32) x2 h
      · refine g_lv (lv' := [(0, .ref (w.2.1 (147))), (1, .int x1), (3, .int x3)]) [0, 1, 3] rfl ?_
        exact j_X8_counted_111 C ih x1 x3 x2 h
def f_X8_counted_75  (k4 : Int32 → Int32 → Int32 → TT → Option (Int32 × TT)) (x1 : Int32) (x3 : Int32) (xs0 : Int32) (xs1 : Int32) (h : TT) : Option (Int32 × TT) := nm (xs1 + xs0) fun y34 => k4 x1 y34 (x3 + (1 : Int32)) h
set_option maxRecDepth 20000 in
theorem j_X8_counted_75 {p : Program} {l : Launch} {e : Env} {R : Room} {s : State} {m : MethodId} {args : Array Value} {below : List Frame} {meth : Method} {c : Code} {w : WK} (C : CX p R s m args meth c w RX8 cX8_counted 4 (some .int) 3 64)    {k4 : Int32 → Int32 → Int32 → TT → Option (Int32 × TT)} (hk4 : ∀ (x1 : Int32) (x2 : Int32) (x3 : Int32)  (h : TT), GO p l e R s m args below meth c w 4 fIT (k4 x1 x2 x3 h) 4 [(0, .ref (w.2.1 (147))), (1, .int x1), (2, .int x2), (3, .int x3)] [] h) (x1 : Int32) (x3 : Int32) (xs0 : Int32) (xs1 : Int32)  (h : TT) : GO p l e R s m args below meth c w 4 fIT (f_X8_counted_75 k4 x1 x3 xs0 xs1 h) 75 [(0, .ref (w.2.1 (147))), (1, .int x1), (3, .int x3)] [.int xs0, .int xs1] h := by
  unfold f_X8_counted_75
  refine g_iadd (pc := 75) C dX8_counted_75 ?_
  refine g_nmi (fun y34 => ?_)
  refine g_istore_n (pc := 76) C dX8_counted_76 rfl (by decide) (lv' := [(2, .int y34), (0, .ref (w.2.1 (147))), (1, .int x1), (3, .int x3)]) rfl ?_
  refine g_iinc (pc := 77) C 3 rfl dX8_counted_77 (ki_1 _) (by decide) (lv' := [(3, .int (x3 + (1 : Int32))), (2, .int y34), (0, .ref (w.2.1 (147))), (1, .int x1)]) rfl ?_
  refine g_goto (pc := 80) (tgt := 4) C dX8_counted_80 (by decide) ?_
  refine g_lv (lv' := [(0, .ref (w.2.1 (147))), (1, .int x1), (2, .int y34), (3, .int (x3 + (1 : Int32)))]) [2, 3, 1, 0] rfl ?_
  exact hk4 x1 y34 (x3 + (1 : Int32)) h
def f_X8_counted_74  (k4 : Int32 → Int32 → Int32 → TT → Option (Int32 × TT)) (x1 : Int32) (x3 : Int32) (xs0 : Int32) (h : TT) : Option (Int32 × TT) := f_X8_counted_75 k4 x1 x3 (0 : Int32) xs0 h
set_option maxRecDepth 20000 in
theorem j_X8_counted_74 {p : Program} {l : Launch} {e : Env} {R : Room} {s : State} {m : MethodId} {args : Array Value} {below : List Frame} {meth : Method} {c : Code} {w : WK} (C : CX p R s m args meth c w RX8 cX8_counted 4 (some .int) 3 64)    {k4 : Int32 → Int32 → Int32 → TT → Option (Int32 × TT)} (hk4 : ∀ (x1 : Int32) (x2 : Int32) (x3 : Int32)  (h : TT), GO p l e R s m args below meth c w 4 fIT (k4 x1 x2 x3 h) 4 [(0, .ref (w.2.1 (147))), (1, .int x1), (2, .int x2), (3, .int x3)] [] h) (x1 : Int32) (x3 : Int32) (xs0 : Int32)  (h : TT) : GO p l e R s m args below meth c w 4 fIT (f_X8_counted_74 k4 x1 x3 xs0 h) 74 [(0, .ref (w.2.1 (147))), (1, .int x1), (3, .int x3)] [.int xs0] h := by
  unfold f_X8_counted_74
  refine g_iconst (pc := 74) (v := 0) C dX8_counted_74 kc_0 ?_
  exact j_X8_counted_75 C hk4 x1 x3 (0 : Int32) xs0 h
def f_X8_counted_70  (k4 : Int32 → Int32 → Int32 → TT → Option (Int32 × TT)) (x1 : Int32) (x3 : Int32) (xs0 : Int32) (h : TT) : Option (Int32 × TT) := f_X8_counted_75 k4 x1 x3 (1 : Int32) xs0 h
set_option maxRecDepth 20000 in
theorem j_X8_counted_70 {p : Program} {l : Launch} {e : Env} {R : Room} {s : State} {m : MethodId} {args : Array Value} {below : List Frame} {meth : Method} {c : Code} {w : WK} (C : CX p R s m args meth c w RX8 cX8_counted 4 (some .int) 3 64)    {k4 : Int32 → Int32 → Int32 → TT → Option (Int32 × TT)} (hk4 : ∀ (x1 : Int32) (x2 : Int32) (x3 : Int32)  (h : TT), GO p l e R s m args below meth c w 4 fIT (k4 x1 x2 x3 h) 4 [(0, .ref (w.2.1 (147))), (1, .int x1), (2, .int x2), (3, .int x3)] [] h) (x1 : Int32) (x3 : Int32) (xs0 : Int32)  (h : TT) : GO p l e R s m args below meth c w 4 fIT (f_X8_counted_70 k4 x1 x3 xs0 h) 70 [(0, .ref (w.2.1 (147))), (1, .int x1), (3, .int x3)] [.int xs0] h := by
  unfold f_X8_counted_70
  refine g_iconst (pc := 70) (v := 1) C dX8_counted_70 kc_1 ?_
  refine g_goto (pc := 71) (tgt := 75) C dX8_counted_71 (by decide) ?_
  exact j_X8_counted_75 C hk4 x1 x3 (1 : Int32) xs0 h
def f_X8_counted_55  (k4 : Int32 → Int32 → Int32 → TT → Option (Int32 × TT)) (x1 : Int32) (x3 : Int32) (xs0 : Int32) (h : TT) : Option (Int32 × TT) := (if x1 = (7 : Int32) then if inb x3 4 = true then (if (h.1 152 x3.toNatClampNeg) < 0 then f_X8_counted_74 k4 x1 x3 xs0 h else f_X8_counted_70 k4 x1 x3 xs0 h) else none else f_X8_counted_74 k4 x1 x3 xs0 h)
set_option maxRecDepth 20000 in
theorem j_X8_counted_55 {p : Program} {l : Launch} {e : Env} {R : Room} {s : State} {m : MethodId} {args : Array Value} {below : List Frame} {meth : Method} {c : Code} {w : WK} (C : CX p R s m args meth c w RX8 cX8_counted 4 (some .int) 3 64)    {k4 : Int32 → Int32 → Int32 → TT → Option (Int32 × TT)} (hk4 : ∀ (x1 : Int32) (x2 : Int32) (x3 : Int32)  (h : TT), GO p l e R s m args below meth c w 4 fIT (k4 x1 x2 x3 h) 4 [(0, .ref (w.2.1 (147))), (1, .int x1), (2, .int x2), (3, .int x3)] [] h) (x1 : Int32) (x3 : Int32) (xs0 : Int32)  (h : TT) : GO p l e R s m args below meth c w 4 fIT (f_X8_counted_55 k4 x1 x3 xs0 h) 55 [(0, .ref (w.2.1 (147))), (1, .int x1), (3, .int x3)] [.int xs0] h := by
  unfold f_X8_counted_55
  refine g_iload_n (pc := 55) C 1 rfl dX8_counted_55 rfl ?_
  refine g_bipush (pc := 56) (v := 7) C dX8_counted_56 kb_7 ?_
  refine g_icmp_ne (pc := 58) (tgt := 74) C dX8_counted_58 (by decide) (fun hc31 => ?_) (fun hc31 => ?_)
  · refine g_aload_n (pc := 61) C 0 rfl dX8_counted_61 rfl ?_
    refine g_get (pc := 62) C so_RX8 8 fl_RX8_22 (v := .ref (w.2.1 (152))) rfl dX8_counted_62 ?_
    refine g_iload_n (pc := 65) C 2 rfl dX8_counted_65 rfl ?_
    refine g_iald (pc := 66) C si_152 dX8_counted_66 (fun hb32 => ?_)
    refine g_if_lt (pc := 67) (tgt := 74) C dX8_counted_67 (by decide) (fun hc33 => ?_) (fun hc33 => ?_)
    · exact j_X8_counted_74 C hk4 x1 x3 xs0 h
    · exact j_X8_counted_70 C hk4 x1 x3 xs0 h
  · exact j_X8_counted_74 C hk4 x1 x3 xs0 h
def f_X8_counted_37  (k4 : Int32 → Int32 → Int32 → TT → Option (Int32 × TT)) (x1 : Int32) (x3 : Int32) (xs0 : Int32) (h : TT) : Option (Int32 × TT) := (if x1 = (5 : Int32) then (if x3 ≤ 0 then f_X8_counted_55 k4 x1 x3 xs0 h else if inb x3 4 = true then (if (h.1 160 x3.toNatClampNeg) = 0 then f_X8_counted_55 k4 x1 x3 xs0 h else f_X8_counted_70 k4 x1 x3 xs0 h) else none) else f_X8_counted_55 k4 x1 x3 xs0 h)
set_option maxRecDepth 20000 in
theorem j_X8_counted_37 {p : Program} {l : Launch} {e : Env} {R : Room} {s : State} {m : MethodId} {args : Array Value} {below : List Frame} {meth : Method} {c : Code} {w : WK} (C : CX p R s m args meth c w RX8 cX8_counted 4 (some .int) 3 64)    {k4 : Int32 → Int32 → Int32 → TT → Option (Int32 × TT)} (hk4 : ∀ (x1 : Int32) (x2 : Int32) (x3 : Int32)  (h : TT), GO p l e R s m args below meth c w 4 fIT (k4 x1 x2 x3 h) 4 [(0, .ref (w.2.1 (147))), (1, .int x1), (2, .int x2), (3, .int x3)] [] h) (x1 : Int32) (x3 : Int32) (xs0 : Int32)  (h : TT) : GO p l e R s m args below meth c w 4 fIT (f_X8_counted_37 k4 x1 x3 xs0 h) 37 [(0, .ref (w.2.1 (147))), (1, .int x1), (3, .int x3)] [.int xs0] h := by
  unfold f_X8_counted_37
  refine g_iload_n (pc := 37) C 1 rfl dX8_counted_37 rfl ?_
  refine g_iconst (pc := 38) (v := 5) C dX8_counted_38 kc_5 ?_
  refine g_icmp_ne (pc := 39) (tgt := 55) C dX8_counted_39 (by decide) (fun hc29 => ?_) (fun hc29 => ?_)
  · refine g_iload_n (pc := 42) C 2 rfl dX8_counted_42 rfl ?_
    refine g_if_le (pc := 43) (tgt := 55) C dX8_counted_43 (by decide) (fun hc30 => ?_) (fun hc30 => ?_)
    · exact j_X8_counted_55 C hk4 x1 x3 xs0 h
    · refine g_aload_n (pc := 46) C 0 rfl dX8_counted_46 rfl ?_
      refine g_get (pc := 47) C so_RX8 20 fl_RX8_48 (v := .ref (w.2.1 (160))) rfl dX8_counted_47 ?_
      refine g_iload_n (pc := 50) C 2 rfl dX8_counted_50 rfl ?_
      refine g_zald (pc := 51) C sz_160 dX8_counted_51 (fun hb35 => ?_)
      refine g_if_ne (pc := 52) (tgt := 70) C dX8_counted_52 (by decide) (fun hc36 => ?_) (fun hc36 => ?_)
      · exact j_X8_counted_55 C hk4 x1 x3 xs0 h
      · exact j_X8_counted_70 C hk4 x1 x3 xs0 h
  · exact j_X8_counted_55 C hk4 x1 x3 xs0 h
def f_X8_counted_23  (k4 : Int32 → Int32 → Int32 → TT → Option (Int32 × TT)) (x1 : Int32) (x3 : Int32) (xs0 : Int32) (h : TT) : Option (Int32 × TT) := (if x1 = (1 : Int32) then if inb x3 4 = true then (if (h.1 156 x3.toNatClampNeg) = 0 then f_X8_counted_37 k4 x1 x3 xs0 h else f_X8_counted_70 k4 x1 x3 xs0 h) else none else f_X8_counted_37 k4 x1 x3 xs0 h)
set_option maxRecDepth 20000 in
theorem j_X8_counted_23 {p : Program} {l : Launch} {e : Env} {R : Room} {s : State} {m : MethodId} {args : Array Value} {below : List Frame} {meth : Method} {c : Code} {w : WK} (C : CX p R s m args meth c w RX8 cX8_counted 4 (some .int) 3 64)    {k4 : Int32 → Int32 → Int32 → TT → Option (Int32 × TT)} (hk4 : ∀ (x1 : Int32) (x2 : Int32) (x3 : Int32)  (h : TT), GO p l e R s m args below meth c w 4 fIT (k4 x1 x2 x3 h) 4 [(0, .ref (w.2.1 (147))), (1, .int x1), (2, .int x2), (3, .int x3)] [] h) (x1 : Int32) (x3 : Int32) (xs0 : Int32)  (h : TT) : GO p l e R s m args below meth c w 4 fIT (f_X8_counted_23 k4 x1 x3 xs0 h) 23 [(0, .ref (w.2.1 (147))), (1, .int x1), (3, .int x3)] [.int xs0] h := by
  unfold f_X8_counted_23
  refine g_iload_n (pc := 23) C 1 rfl dX8_counted_23 rfl ?_
  refine g_iconst (pc := 24) (v := 1) C dX8_counted_24 kc_1 ?_
  refine g_icmp_ne (pc := 25) (tgt := 37) C dX8_counted_25 (by decide) (fun hc26 => ?_) (fun hc26 => ?_)
  · refine g_aload_n (pc := 28) C 0 rfl dX8_counted_28 rfl ?_
    refine g_get (pc := 29) C so_RX8 12 fl_RX8_36 (v := .ref (w.2.1 (156))) rfl dX8_counted_29 ?_
    refine g_iload_n (pc := 32) C 2 rfl dX8_counted_32 rfl ?_
    refine g_zald (pc := 33) C sz_156 dX8_counted_33 (fun hb27 => ?_)
    refine g_if_ne (pc := 34) (tgt := 70) C dX8_counted_34 (by decide) (fun hc28 => ?_) (fun hc28 => ?_)
    · exact j_X8_counted_37 C hk4 x1 x3 xs0 h
    · exact j_X8_counted_70 C hk4 x1 x3 xs0 h
  · exact j_X8_counted_37 C hk4 x1 x3 xs0 h
def f_X8_counted_4   : Nat → Int32 → Int32 → Int32 → TT → Option (Int32 × TT)
  | 0, _, _, _, _ => none
  | n + 1, x1, x2, x3, h => (if (4 : Int32) ≤ x3 then f_X8_counted_85 KF x1 x2 (0 : Int32) h else (if x1 = 0 then if inb x3 4 = true then (if (h.1 154 x3.toNatClampNeg) = 0 then f_X8_counted_23 (f_X8_counted_4 n) x1 x3 x2 h else f_X8_counted_70 (f_X8_counted_4 n) x1 x3 x2 h) else none else f_X8_counted_23 (f_X8_counted_4 n) x1 x3 x2 h))
set_option maxRecDepth 20000 in
theorem j_X8_counted_4 {p : Program} {l : Launch} {e : Env} {R : Room} {s : State} {m : MethodId} {args : Array Value} {below : List Frame} {meth : Method} {c : Code} {w : WK} (C : CX p R s m args meth c w RX8 cX8_counted 4 (some .int) 3 64)     : ∀ (n : Nat) (x1 : Int32) (x2 : Int32) (x3 : Int32) (h : TT), GO p l e R s m args below meth c w 4 fIT (f_X8_counted_4 n x1 x2 x3 h) 4 [(0, .ref (w.2.1 (147))), (1, .int x1), (2, .int x2), (3, .int x3)] [] h := by
  intro n
  induction n with
  | zero =>
    intro x1 x2 x3 h
    exact g_none
  | succ n ih =>
    intro x1 x2 x3 h
    rw [f_X8_counted_4]
    refine g_iload_n (pc := 4) C 3 rfl dX8_counted_4 rfl ?_
    refine g_iconst (pc := 5) (v := 4) C dX8_counted_5 kc_4 ?_
    refine g_icmp_ge (pc := 6) (tgt := 83) C dX8_counted_6 (by decide) (fun hc1 => ?_) (fun hc1 => ?_)
    · refine g_iconst (pc := 83) (v := 0) C dX8_counted_83 kc_0 ?_
      refine g_istore_n (pc := 84) C dX8_counted_84 rfl (by decide) (lv' := [(3, .int (0 : Int32)), (0, .ref (w.2.1 (147))), (1, .int x1), (2, .int x2)]) rfl ?_
      refine g_lv (lv' := [(0, .ref (w.2.1 (147))), (1, .int x1), (2, .int x2), (3, .int (0 : Int32))]) [1, 2, 3, 0] rfl ?_
      exact j_X8_counted_85 C KF x1 x2 (0 : Int32) h
    · refine g_iload_n (pc := 9) C 2 rfl dX8_counted_9 rfl ?_
      refine g_iload_n (pc := 10) C 1 rfl dX8_counted_10 rfl ?_
      refine g_if_ne (pc := 11) (tgt := 23) C dX8_counted_11 (by decide) (fun hc23 => ?_) (fun hc23 => ?_)
      · refine g_aload_n (pc := 14) C 0 rfl dX8_counted_14 rfl ?_
        refine g_get (pc := 15) C so_RX8 10 fl_RX8_29 (v := .ref (w.2.1 (154))) rfl dX8_counted_15 ?_
        refine g_iload_n (pc := 18) C 3 rfl dX8_counted_18 rfl ?_
        refine g_zald (pc := 19) C sz_154 dX8_counted_19 (fun hb24 => ?_)
        refine g_if_ne (pc := 20) (tgt := 70) C dX8_counted_20 (by decide) (fun hc25 => ?_) (fun hc25 => ?_)
        · refine g_lv (lv' := [(0, .ref (w.2.1 (147))), (1, .int x1), (3, .int x3)]) [0, 1, 3] rfl ?_
          exact j_X8_counted_23 C ih x1 x3 x2 h
        · refine g_lv (lv' := [(0, .ref (w.2.1 (147))), (1, .int x1), (3, .int x3)]) [0, 1, 3] rfl ?_
          exact j_X8_counted_70 C ih x1 x3 x2 h
      · refine g_lv (lv' := [(0, .ref (w.2.1 (147))), (1, .int x1), (3, .int x3)]) [0, 1, 3] rfl ?_
        exact j_X8_counted_23 C ih x1 x3 x2 h
def f_X8_counted (h : TT) (x1 : Int32) : Option (Int32 × TT) := f_X8_counted_4 KF x1 (0 : Int32) (0 : Int32) h
set_option maxRecDepth 20000 in
theorem m_X8_counted {l : Launch} {w : WK} {h : TT} {x1 : Int32} {x : (Int32 × TT)} (hx : f_X8_counted h x1 = some x)  : Met l yX8_counted (Cond.code yX8_counted cX8_counted 4 (some .int) :: wsG) { frames := 3, cells := 0, slots := 0, locals := 64 } (PG w [.ref (w.2.1 (147)), .int x1] h) (QG w (fIT x)) 0 0 (AA w) := by
  refine m_entry (own := RX8) (f := fIT) hx (by decide) rfl (Nat.le_of_ble_eq_true rfl) (fun p e s m args below meth c C => ?_)
  show GO p l e _ s m args below meth c w 4 fIT (f_X8_counted h x1) 0 [(0, .ref (w.2.1 (147))), (1, .int x1)] [] h
  unfold f_X8_counted
  refine g_iconst (pc := 0) (v := 0) C dX8_counted_0 kc_0 ?_
  refine g_istore_n (pc := 1) C dX8_counted_1 rfl (by decide) (lv' := [(2, .int (0 : Int32)), (0, .ref (w.2.1 (147))), (1, .int x1)]) rfl ?_
  refine g_iconst (pc := 2) (v := 0) C dX8_counted_2 kc_0 ?_
  refine g_istore_n (pc := 3) C dX8_counted_3 rfl (by decide) (lv' := [(3, .int (0 : Int32)), (2, .int (0 : Int32)), (0, .ref (w.2.1 (147))), (1, .int x1)]) rfl ?_
  refine g_lv (lv' := [(0, .ref (w.2.1 (147))), (1, .int x1), (2, .int (0 : Int32)), (3, .int (0 : Int32))]) [2, 3, 1, 0] rfl ?_
  exact j_X8_counted_4 C KF x1 (0 : Int32) (0 : Int32) h
/-- SnowHouseModel.count(I)I -/
def f_X8_count (h : TT) (x1 : Int32) : Option (Int32 × TT) := (f_X8_in h x1 (0 : Int32) (7 : Int32)).bind fun r1 => (if r1 = 0 then some ((-1 : Int32), h) else (f_X8_counted h x1).bind fun q3 => some (q3.1, q3.2))
set_option maxRecDepth 20000 in
theorem m_X8_count {l : Launch} {w : WK} {h : TT} {x1 : Int32} {x : (Int32 × TT)} (hx : f_X8_count h x1 = some x)  : Met l yX8_count (Cond.code yX8_count cX8_count 2 (some .int) :: wsG) { frames := 4, cells := 0, slots := 0, locals := 87 } (PG w [.ref (w.2.1 (147)), .int x1] h) (QG w (fIT x)) 0 0 (AA w) := by
  refine m_entry (own := RX8) (f := fIT) hx (by decide) rfl (Nat.le_of_ble_eq_true rfl) (fun p e s m args below meth c C => ?_)
  show GO p l e _ s m args below meth c w 2 fIT (f_X8_count h x1) 0 [(0, .ref (w.2.1 (147))), (1, .int x1)] [] h
  unfold f_X8_count
  refine g_iload_n (pc := 0) C 1 rfl dX8_count_0 rfl ?_
  refine g_iconst (pc := 1) (v := 0) C dX8_count_1 kc_0 ?_
  refine g_bipush (pc := 2) (v := 7) C dX8_count_2 kb_7 ?_
  refine g_callI (pc := 4) (rest := []) (g_runS C ms_RX8_71 (fun x1 hx1 => m_X8_in hx1) (by decide) rfl rfl (Nat.le_of_ble_eq_true rfl) dX8_count_4) (fun r1 => ?_)
  refine g_if_eq (pc := 7) (tgt := 18) C dX8_count_7 (by decide) (fun hc2 => ?_) (fun hc2 => ?_)
  · refine g_iconst (pc := 18) (v := -1) C dX8_count_18 kc_m1 ?_
    exact g_iretT C dX8_count_19
  · refine g_aload_n (pc := 10) C 0 rfl dX8_count_10 rfl ?_
    refine g_iload_n (pc := 11) C 1 rfl dX8_count_11 rfl ?_
    refine g_callIT (pc := 12) (rest := []) (g_runV C mv_RX8_311 (fun x1 hx1 => m_X8_counted hx1) so_RX8 rfl (by decide) rfl rfl (Nat.le_of_ble_eq_true rfl) dX8_count_12) (fun q3 => ?_)
    refine g_goto (pc := 15) (tgt := 19) C dX8_count_15 (by decide) ?_
    exact g_iretT C dX8_count_19
/-- SnowHouseModel.mix(J)V -/
def f_X8_mix (h : TT) (x1 : Int64) : Option TT := nm (wrl h 147 28 (((31 : Int64) * (h.2 147 28)) + x1)) fun h1 => some h1
set_option maxRecDepth 20000 in
theorem m_X8_mix {l : Launch} {w : WK} {h : TT} {x1 : Int64} {x : TT} (hx : f_X8_mix h x1 = some x)  : Met l yX8_mix (Cond.code yX8_mix cX8_mix 3 none :: wsG) { frames := 0, cells := 0, slots := 0, locals := 0 } (PG w [.ref (w.2.1 (147)), .long x1] h) (QG w (fV x)) 0 0 (AA w) := by
  refine m_entry (own := RX8) (f := fV) hx (by decide) rfl (Nat.le_of_ble_eq_true rfl) (fun p e s m args below meth c C => ?_)
  show GO p l e _ s m args below meth c w 3 fV (f_X8_mix h x1) 0 [(0, .ref (w.2.1 (147))), (1, .long x1)] [] h
  unfold f_X8_mix
  refine g_aload_n (pc := 0) C 0 rfl dX8_mix_0 rfl ?_
  refine g_ldc2 (pc := 1) C wd_RX8_314 dX8_mix_1 ?_
  refine g_aload_n (pc := 4) C 0 rfl dX8_mix_4 rfl ?_
  refine g_get (pc := 5) C so_RX8 28 fl_RX8_316 (v := .long (h.2 147 28)) rfl dX8_mix_5 ?_
  refine g_lmul (pc := 8) C dX8_mix_8 ?_
  refine g_lload_n (pc := 9) C 1 rfl dX8_mix_9 rfl ?_
  refine g_ladd (pc := 10) C dX8_mix_10 ?_
  refine g_putJ (pc := 11) C so_RX8 28 fp_RX8_316 (se_RX8_28 _) rfl rfl (sl_RX8_28) dX8_mix_11 ?_
  refine g_nm (fun h1 => ?_)
  exact g_vret C dX8_mix_14
/-- SnowHouseModel.mixBooks()V -/
def f_X8_mixBooks_183  (k68 : Int32 → TT → Option TT) (x1 : Int32) (h : TT) : Option TT := k68 (x1 + (1 : Int32)) h
set_option maxRecDepth 20000 in
theorem j_X8_mixBooks_183 {p : Program} {l : Launch} {e : Env} {R : Room} {s : State} {m : MethodId} {args : Array Value} {below : List Frame} {meth : Method} {c : Code} {w : WK} (C : CX p R s m args meth c w RX8 cX8_mixBooks 3 none 2 45)    {k68 : Int32 → TT → Option TT} (hk68 : ∀ (x1 : Int32)  (h : TT), GO p l e R s m args below meth c w 3 fV (k68 x1 h) 68 [(0, .ref (w.2.1 (147))), (1, .int x1)] [] h) (x1 : Int32)  (h : TT) : GO p l e R s m args below meth c w 3 fV (f_X8_mixBooks_183 k68 x1 h) 183 [(0, .ref (w.2.1 (147))), (1, .int x1)] [] h := by
  unfold f_X8_mixBooks_183
  refine g_iinc (pc := 183) C 1 rfl dX8_mixBooks_183 (ki_1 _) (by decide) (lv' := [(1, .int (x1 + (1 : Int32))), (0, .ref (w.2.1 (147)))]) rfl ?_
  refine g_goto (pc := 186) (tgt := 68) C dX8_mixBooks_186 (by decide) ?_
  refine g_lv (lv' := [(0, .ref (w.2.1 (147))), (1, .int (x1 + (1 : Int32)))]) [1, 0] rfl ?_
  exact hk68 (x1 + (1 : Int32)) h
def f_X8_mixBooks_124  (k68 : Int32 → TT → Option TT) : Nat → Int32 → Int32 → TT → Option TT
  | 0, _, _, _ => none
  | n + 1, x1, x2, h => if inb ((26 : Int32) * x1) 104 = true then (if (h.1 157 ((26 : Int32) * x1).toNatClampNeg) ≤ x2 then f_X8_mixBooks_183 k68 x1 h else if inb x1 4 = true then (if (h.1 156 x1.toNatClampNeg) = 0 then f_X8_mixBooks_183 k68 x1 h else if inb ((((26 : Int32) * x1) + (2 : Int32)) + ((3 : Int32) * x2)) 104 = true then (f_X8_mix h ((h.1 157 ((((26 : Int32) * x1) + (2 : Int32)) + ((3 : Int32) * x2)).toNatClampNeg).toInt64)).bind fun h12 => (f_X8_courseTells h12 x1 x2).bind fun r13 => (f_X8_mix h12 r13.toInt64).bind fun h14 => f_X8_mixBooks_124 k68 n x1 (x2 + (1 : Int32)) h14 else none) else none) else none
set_option maxRecDepth 20000 in
theorem j_X8_mixBooks_124 {p : Program} {l : Launch} {e : Env} {R : Room} {s : State} {m : MethodId} {args : Array Value} {below : List Frame} {meth : Method} {c : Code} {w : WK} (C : CX p R s m args meth c w RX8 cX8_mixBooks 3 none 2 45)    {k68 : Int32 → TT → Option TT} (hk68 : ∀ (x1 : Int32)  (h : TT), GO p l e R s m args below meth c w 3 fV (k68 x1 h) 68 [(0, .ref (w.2.1 (147))), (1, .int x1)] [] h) : ∀ (n : Nat) (x1 : Int32) (x2 : Int32) (h : TT), GO p l e R s m args below meth c w 3 fV (f_X8_mixBooks_124 k68 n x1 x2 h) 124 [(0, .ref (w.2.1 (147))), (1, .int x1), (2, .int x2)] [] h := by
  intro n
  induction n with
  | zero =>
    intro x1 x2 h
    exact g_none
  | succ n ih =>
    intro x1 x2 h
    rw [f_X8_mixBooks_124]
    refine g_iload_n (pc := 124) C 2 rfl dX8_mixBooks_124 rfl ?_
    refine g_aload_n (pc := 125) C 0 rfl dX8_mixBooks_125 rfl ?_
    refine g_get (pc := 126) C so_RX8 13 fl_RX8_39 (v := .ref (w.2.1 (157))) rfl dX8_mixBooks_126 ?_
    refine g_bipush (pc := 129) (v := 26) C dX8_mixBooks_129 kb_26 ?_
    refine g_iload_n (pc := 131) C 1 rfl dX8_mixBooks_131 rfl ?_
    refine g_imul (pc := 132) C dX8_mixBooks_132 ?_
    refine g_iald (pc := 133) C si_157 dX8_mixBooks_133 (fun hb7 => ?_)
    refine g_icmp_ge (pc := 134) (tgt := 183) C dX8_mixBooks_134 (by decide) (fun hc8 => ?_) (fun hc8 => ?_)
    · refine g_lv (lv' := [(0, .ref (w.2.1 (147))), (1, .int x1)]) [0, 1] rfl ?_
      exact j_X8_mixBooks_183 C hk68 x1 h
    · refine g_aload_n (pc := 137) C 0 rfl dX8_mixBooks_137 rfl ?_
      refine g_get (pc := 138) C so_RX8 12 fl_RX8_36 (v := .ref (w.2.1 (156))) rfl dX8_mixBooks_138 ?_
      refine g_iload_n (pc := 141) C 1 rfl dX8_mixBooks_141 rfl ?_
      refine g_zald (pc := 142) C sz_156 dX8_mixBooks_142 (fun hb9 => ?_)
      refine g_if_eq (pc := 143) (tgt := 183) C dX8_mixBooks_143 (by decide) (fun hc10 => ?_) (fun hc10 => ?_)
      · refine g_lv (lv' := [(0, .ref (w.2.1 (147))), (1, .int x1)]) [0, 1] rfl ?_
        exact j_X8_mixBooks_183 C hk68 x1 h
      · refine g_aload_n (pc := 146) C 0 rfl dX8_mixBooks_146 rfl ?_
        refine g_aload_n (pc := 147) C 0 rfl dX8_mixBooks_147 rfl ?_
        refine g_get (pc := 148) C so_RX8 13 fl_RX8_39 (v := .ref (w.2.1 (157))) rfl dX8_mixBooks_148 ?_
        refine g_bipush (pc := 151) (v := 26) C dX8_mixBooks_151 kb_26 ?_
        refine g_iload_n (pc := 153) C 1 rfl dX8_mixBooks_153 rfl ?_
        refine g_imul (pc := 154) C dX8_mixBooks_154 ?_
        refine g_iconst (pc := 155) (v := 2) C dX8_mixBooks_155 kc_2 ?_
        refine g_iadd (pc := 156) C dX8_mixBooks_156 ?_
        refine g_iconst (pc := 157) (v := 3) C dX8_mixBooks_157 kc_3 ?_
        refine g_iload_n (pc := 158) C 2 rfl dX8_mixBooks_158 rfl ?_
        refine g_imul (pc := 159) C dX8_mixBooks_159 ?_
        refine g_iadd (pc := 160) C dX8_mixBooks_160 ?_
        refine g_iald (pc := 161) C si_157 dX8_mixBooks_161 (fun hb11 => ?_)
        refine g_i2l (pc := 162) C dX8_mixBooks_162 ?_
        refine g_callV (pc := 163) (rest := []) (g_runV C mv_RX8_321 (fun x1 hx1 => m_X8_mix hx1) so_RX8 rfl (by decide) rfl rfl (Nat.le_of_ble_eq_true rfl) dX8_mixBooks_163) (fun h12 => ?_)
        refine g_aload_n (pc := 166) C 0 rfl dX8_mixBooks_166 rfl ?_
        refine g_aload_n (pc := 167) C 0 rfl dX8_mixBooks_167 rfl ?_
        refine g_iload_n (pc := 168) C 1 rfl dX8_mixBooks_168 rfl ?_
        refine g_iload_n (pc := 169) C 2 rfl dX8_mixBooks_169 rfl ?_
        refine g_callI (pc := 170) (rest := [.ref (w.2.1 (147))]) (g_runV C mv_RX8_148 (fun x1 hx1 => m_X8_courseTells hx1) so_RX8 rfl (by decide) rfl rfl (Nat.le_of_ble_eq_true rfl) dX8_mixBooks_170) (fun r13 => ?_)
        refine g_i2l (pc := 173) C dX8_mixBooks_173 ?_
        refine g_callV (pc := 174) (rest := []) (g_runV C mv_RX8_321 (fun x1 hx1 => m_X8_mix hx1) so_RX8 rfl (by decide) rfl rfl (Nat.le_of_ble_eq_true rfl) dX8_mixBooks_174) (fun h14 => ?_)
        refine g_iinc (pc := 177) C 2 rfl dX8_mixBooks_177 (ki_1 _) (by decide) (lv' := [(2, .int (x2 + (1 : Int32))), (0, .ref (w.2.1 (147))), (1, .int x1)]) rfl ?_
        refine g_goto (pc := 180) (tgt := 124) C dX8_mixBooks_180 (by decide) ?_
        refine g_lv (lv' := [(0, .ref (w.2.1 (147))), (1, .int x1), (2, .int (x2 + (1 : Int32)))]) [1, 2, 0] rfl ?_
        exact ih x1 (x2 + (1 : Int32)) h14
def f_X8_mixBooks_122  (k68 : Int32 → TT → Option TT) (x1 : Int32) (h : TT) : Option TT := f_X8_mixBooks_124 k68 KF x1 (0 : Int32) h
set_option maxRecDepth 20000 in
theorem j_X8_mixBooks_122 {p : Program} {l : Launch} {e : Env} {R : Room} {s : State} {m : MethodId} {args : Array Value} {below : List Frame} {meth : Method} {c : Code} {w : WK} (C : CX p R s m args meth c w RX8 cX8_mixBooks 3 none 2 45)    {k68 : Int32 → TT → Option TT} (hk68 : ∀ (x1 : Int32)  (h : TT), GO p l e R s m args below meth c w 3 fV (k68 x1 h) 68 [(0, .ref (w.2.1 (147))), (1, .int x1)] [] h) (x1 : Int32)  (h : TT) : GO p l e R s m args below meth c w 3 fV (f_X8_mixBooks_122 k68 x1 h) 122 [(0, .ref (w.2.1 (147))), (1, .int x1)] [] h := by
  unfold f_X8_mixBooks_122
  refine g_iconst (pc := 122) (v := 0) C dX8_mixBooks_122 kc_0 ?_
  refine g_istore_n (pc := 123) C dX8_mixBooks_123 rfl (by decide) (lv' := [(2, .int (0 : Int32)), (0, .ref (w.2.1 (147))), (1, .int x1)]) rfl ?_
  refine g_lv (lv' := [(0, .ref (w.2.1 (147))), (1, .int x1), (2, .int (0 : Int32))]) [1, 2, 0] rfl ?_
  exact j_X8_mixBooks_124 C hk68 KF x1 (0 : Int32) h
def f_X8_mixBooks_91  (k68 : Int32 → TT → Option TT) : Nat → Int32 → Int32 → TT → Option TT
  | 0, _, _, _ => none
  | n + 1, x1, x2, h => (if (4 : Int32) ≤ x2 then f_X8_mixBooks_122 k68 x1 h else if inb x1 4 = true then (if (h.1 156 x1.toNatClampNeg) = 0 then f_X8_mixBooks_122 k68 x1 h else (f_X8_planTells h x1 x2).bind fun r17 => (f_X8_mix h r17.toInt64).bind fun h18 => f_X8_mixBooks_91 k68 n x1 (x2 + (1 : Int32)) h18) else none)
set_option maxRecDepth 20000 in
theorem j_X8_mixBooks_91 {p : Program} {l : Launch} {e : Env} {R : Room} {s : State} {m : MethodId} {args : Array Value} {below : List Frame} {meth : Method} {c : Code} {w : WK} (C : CX p R s m args meth c w RX8 cX8_mixBooks 3 none 2 45)    {k68 : Int32 → TT → Option TT} (hk68 : ∀ (x1 : Int32)  (h : TT), GO p l e R s m args below meth c w 3 fV (k68 x1 h) 68 [(0, .ref (w.2.1 (147))), (1, .int x1)] [] h) : ∀ (n : Nat) (x1 : Int32) (x2 : Int32) (h : TT), GO p l e R s m args below meth c w 3 fV (f_X8_mixBooks_91 k68 n x1 x2 h) 91 [(0, .ref (w.2.1 (147))), (1, .int x1), (2, .int x2)] [] h := by
  intro n
  induction n with
  | zero =>
    intro x1 x2 h
    exact g_none
  | succ n ih =>
    intro x1 x2 h
    rw [f_X8_mixBooks_91]
    refine g_iload_n (pc := 91) C 2 rfl dX8_mixBooks_91 rfl ?_
    refine g_iconst (pc := 92) (v := 4) C dX8_mixBooks_92 kc_4 ?_
    refine g_icmp_ge (pc := 93) (tgt := 122) C dX8_mixBooks_93 (by decide) (fun hc6 => ?_) (fun hc6 => ?_)
    · refine g_lv (lv' := [(0, .ref (w.2.1 (147))), (1, .int x1)]) [0, 1] rfl ?_
      exact j_X8_mixBooks_122 C hk68 x1 h
    · refine g_aload_n (pc := 96) C 0 rfl dX8_mixBooks_96 rfl ?_
      refine g_get (pc := 97) C so_RX8 12 fl_RX8_36 (v := .ref (w.2.1 (156))) rfl dX8_mixBooks_97 ?_
      refine g_iload_n (pc := 100) C 1 rfl dX8_mixBooks_100 rfl ?_
      refine g_zald (pc := 101) C sz_156 dX8_mixBooks_101 (fun hb15 => ?_)
      refine g_if_eq (pc := 102) (tgt := 122) C dX8_mixBooks_102 (by decide) (fun hc16 => ?_) (fun hc16 => ?_)
      · refine g_lv (lv' := [(0, .ref (w.2.1 (147))), (1, .int x1)]) [0, 1] rfl ?_
        exact j_X8_mixBooks_122 C hk68 x1 h
      · refine g_aload_n (pc := 105) C 0 rfl dX8_mixBooks_105 rfl ?_
        refine g_aload_n (pc := 106) C 0 rfl dX8_mixBooks_106 rfl ?_
        refine g_iload_n (pc := 107) C 1 rfl dX8_mixBooks_107 rfl ?_
        refine g_iload_n (pc := 108) C 2 rfl dX8_mixBooks_108 rfl ?_
        refine g_callI (pc := 109) (rest := [.ref (w.2.1 (147))]) (g_runV C mv_RX8_145 (fun x1 hx1 => m_X8_planTells hx1) so_RX8 rfl (by decide) rfl rfl (Nat.le_of_ble_eq_true rfl) dX8_mixBooks_109) (fun r17 => ?_)
        refine g_i2l (pc := 112) C dX8_mixBooks_112 ?_
        refine g_callV (pc := 113) (rest := []) (g_runV C mv_RX8_321 (fun x1 hx1 => m_X8_mix hx1) so_RX8 rfl (by decide) rfl rfl (Nat.le_of_ble_eq_true rfl) dX8_mixBooks_113) (fun h18 => ?_)
        refine g_iinc (pc := 116) C 2 rfl dX8_mixBooks_116 (ki_1 _) (by decide) (lv' := [(2, .int (x2 + (1 : Int32))), (0, .ref (w.2.1 (147))), (1, .int x1)]) rfl ?_
        refine g_goto (pc := 119) (tgt := 91) C dX8_mixBooks_119 (by decide) ?_
        refine g_lv (lv' := [(0, .ref (w.2.1 (147))), (1, .int x1), (2, .int (x2 + (1 : Int32)))]) [1, 2, 0] rfl ?_
        exact ih x1 (x2 + (1 : Int32)) h18
def f_X8_mixBooks_89  (k68 : Int32 → TT → Option TT) (x1 : Int32) (h : TT) : Option TT := f_X8_mixBooks_91 k68 KF x1 (0 : Int32) h
set_option maxRecDepth 20000 in
theorem j_X8_mixBooks_89 {p : Program} {l : Launch} {e : Env} {R : Room} {s : State} {m : MethodId} {args : Array Value} {below : List Frame} {meth : Method} {c : Code} {w : WK} (C : CX p R s m args meth c w RX8 cX8_mixBooks 3 none 2 45)    {k68 : Int32 → TT → Option TT} (hk68 : ∀ (x1 : Int32)  (h : TT), GO p l e R s m args below meth c w 3 fV (k68 x1 h) 68 [(0, .ref (w.2.1 (147))), (1, .int x1)] [] h) (x1 : Int32)  (h : TT) : GO p l e R s m args below meth c w 3 fV (f_X8_mixBooks_89 k68 x1 h) 89 [(0, .ref (w.2.1 (147))), (1, .int x1)] [] h := by
  unfold f_X8_mixBooks_89
  refine g_iconst (pc := 89) (v := 0) C dX8_mixBooks_89 kc_0 ?_
  refine g_istore_n (pc := 90) C dX8_mixBooks_90 rfl (by decide) (lv' := [(2, .int (0 : Int32)), (0, .ref (w.2.1 (147))), (1, .int x1)]) rfl ?_
  refine g_lv (lv' := [(0, .ref (w.2.1 (147))), (1, .int x1), (2, .int (0 : Int32))]) [1, 2, 0] rfl ?_
  exact j_X8_mixBooks_91 C hk68 KF x1 (0 : Int32) h
def f_X8_mixBooks_68   : Nat → Int32 → TT → Option TT
  | 0, _, _ => none
  | n + 1, x1, h => (if (4 : Int32) ≤ x1 then some h else if inb x1 4 = true then (if (h.1 156 x1.toNatClampNeg) = 0 then (f_X8_mix h (-1 : Int64)).bind fun h5 => f_X8_mixBooks_89 (f_X8_mixBooks_68 n) x1 h5 else f_X8_mixBooks_89 (f_X8_mixBooks_68 n) x1 h) else none)
set_option maxRecDepth 20000 in
theorem j_X8_mixBooks_68 {p : Program} {l : Launch} {e : Env} {R : Room} {s : State} {m : MethodId} {args : Array Value} {below : List Frame} {meth : Method} {c : Code} {w : WK} (C : CX p R s m args meth c w RX8 cX8_mixBooks 3 none 2 45)     : ∀ (n : Nat) (x1 : Int32) (h : TT), GO p l e R s m args below meth c w 3 fV (f_X8_mixBooks_68 n x1 h) 68 [(0, .ref (w.2.1 (147))), (1, .int x1)] [] h := by
  intro n
  induction n with
  | zero =>
    intro x1 h
    exact g_none
  | succ n ih =>
    intro x1 h
    rw [f_X8_mixBooks_68]
    refine g_iload_n (pc := 68) C 1 rfl dX8_mixBooks_68 rfl ?_
    refine g_iconst (pc := 69) (v := 4) C dX8_mixBooks_69 kc_4 ?_
    refine g_icmp_ge (pc := 70) (tgt := 189) C dX8_mixBooks_70 (by decide) (fun hc2 => ?_) (fun hc2 => ?_)
    · exact g_vret C dX8_mixBooks_189
    · refine g_aload_n (pc := 73) C 0 rfl dX8_mixBooks_73 rfl ?_
      refine g_get (pc := 74) C so_RX8 12 fl_RX8_36 (v := .ref (w.2.1 (156))) rfl dX8_mixBooks_74 ?_
      refine g_iload_n (pc := 77) C 1 rfl dX8_mixBooks_77 rfl ?_
      refine g_zald (pc := 78) C sz_156 dX8_mixBooks_78 (fun hb3 => ?_)
      refine g_if_ne (pc := 79) (tgt := 89) C dX8_mixBooks_79 (by decide) (fun hc4 => ?_) (fun hc4 => ?_)
      · refine g_aload_n (pc := 82) C 0 rfl dX8_mixBooks_82 rfl ?_
        refine g_ldc2 (pc := 83) C wd_RX8_319 dX8_mixBooks_83 ?_
        refine g_callV (pc := 86) (rest := []) (g_runV C mv_RX8_321 (fun x1 hx1 => m_X8_mix hx1) so_RX8 rfl (by decide) rfl rfl (Nat.le_of_ble_eq_true rfl) dX8_mixBooks_86) (fun h5 => ?_)
        exact j_X8_mixBooks_89 C ih x1 h5
      · exact j_X8_mixBooks_89 C ih x1 h
def f_X8_mixBooks_60  (k2 : Int32 → TT → Option TT) (x1 : Int32) (h : TT) : Option TT := k2 (x1 + (1 : Int32)) h
set_option maxRecDepth 20000 in
theorem j_X8_mixBooks_60 {p : Program} {l : Launch} {e : Env} {R : Room} {s : State} {m : MethodId} {args : Array Value} {below : List Frame} {meth : Method} {c : Code} {w : WK} (C : CX p R s m args meth c w RX8 cX8_mixBooks 3 none 2 45)    {k2 : Int32 → TT → Option TT} (hk2 : ∀ (x1 : Int32)  (h : TT), GO p l e R s m args below meth c w 3 fV (k2 x1 h) 2 [(0, .ref (w.2.1 (147))), (1, .int x1)] [] h) (x1 : Int32)  (h : TT) : GO p l e R s m args below meth c w 3 fV (f_X8_mixBooks_60 k2 x1 h) 60 [(0, .ref (w.2.1 (147))), (1, .int x1)] [] h := by
  unfold f_X8_mixBooks_60
  refine g_iinc (pc := 60) C 1 rfl dX8_mixBooks_60 (ki_1 _) (by decide) (lv' := [(1, .int (x1 + (1 : Int32))), (0, .ref (w.2.1 (147)))]) rfl ?_
  refine g_goto (pc := 63) (tgt := 2) C dX8_mixBooks_63 (by decide) ?_
  refine g_lv (lv' := [(0, .ref (w.2.1 (147))), (1, .int (x1 + (1 : Int32)))]) [1, 0] rfl ?_
  exact hk2 (x1 + (1 : Int32)) h
def f_X8_mixBooks_25  (k2 : Int32 → TT → Option TT) : Nat → Int32 → Int32 → TT → Option TT
  | 0, _, _, _ => none
  | n + 1, x1, x2, h => (if (4 : Int32) ≤ x2 then f_X8_mixBooks_60 k2 x1 h else if inb x1 4 = true then (if (h.1 154 x1.toNatClampNeg) = 0 then f_X8_mixBooks_60 k2 x1 h else if inb (((4 : Int32) * x1) + x2) 16 = true then (f_X8_mix h ((h.1 155 (((4 : Int32) * x1) + x2).toNatClampNeg).toInt64)).bind fun h26 => f_X8_mixBooks_25 k2 n x1 (x2 + (1 : Int32)) h26 else none) else none)
set_option maxRecDepth 20000 in
theorem j_X8_mixBooks_25 {p : Program} {l : Launch} {e : Env} {R : Room} {s : State} {m : MethodId} {args : Array Value} {below : List Frame} {meth : Method} {c : Code} {w : WK} (C : CX p R s m args meth c w RX8 cX8_mixBooks 3 none 2 45)    {k2 : Int32 → TT → Option TT} (hk2 : ∀ (x1 : Int32)  (h : TT), GO p l e R s m args below meth c w 3 fV (k2 x1 h) 2 [(0, .ref (w.2.1 (147))), (1, .int x1)] [] h) : ∀ (n : Nat) (x1 : Int32) (x2 : Int32) (h : TT), GO p l e R s m args below meth c w 3 fV (f_X8_mixBooks_25 k2 n x1 x2 h) 25 [(0, .ref (w.2.1 (147))), (1, .int x1), (2, .int x2)] [] h := by
  intro n
  induction n with
  | zero =>
    intro x1 x2 h
    exact g_none
  | succ n ih =>
    intro x1 x2 h
    rw [f_X8_mixBooks_25]
    refine g_iload_n (pc := 25) C 2 rfl dX8_mixBooks_25 rfl ?_
    refine g_iconst (pc := 26) (v := 4) C dX8_mixBooks_26 kc_4 ?_
    refine g_icmp_ge (pc := 27) (tgt := 60) C dX8_mixBooks_27 (by decide) (fun hc22 => ?_) (fun hc22 => ?_)
    · refine g_lv (lv' := [(0, .ref (w.2.1 (147))), (1, .int x1)]) [0, 1] rfl ?_
      exact j_X8_mixBooks_60 C hk2 x1 h
    · refine g_aload_n (pc := 30) C 0 rfl dX8_mixBooks_30 rfl ?_
      refine g_get (pc := 31) C so_RX8 10 fl_RX8_29 (v := .ref (w.2.1 (154))) rfl dX8_mixBooks_31 ?_
      refine g_iload_n (pc := 34) C 1 rfl dX8_mixBooks_34 rfl ?_
      refine g_zald (pc := 35) C sz_154 dX8_mixBooks_35 (fun hb23 => ?_)
      refine g_if_eq (pc := 36) (tgt := 60) C dX8_mixBooks_36 (by decide) (fun hc24 => ?_) (fun hc24 => ?_)
      · refine g_lv (lv' := [(0, .ref (w.2.1 (147))), (1, .int x1)]) [0, 1] rfl ?_
        exact j_X8_mixBooks_60 C hk2 x1 h
      · refine g_aload_n (pc := 39) C 0 rfl dX8_mixBooks_39 rfl ?_
        refine g_aload_n (pc := 40) C 0 rfl dX8_mixBooks_40 rfl ?_
        refine g_get (pc := 41) C so_RX8 11 fl_RX8_33 (v := .ref (w.2.1 (155))) rfl dX8_mixBooks_41 ?_
        refine g_iconst (pc := 44) (v := 4) C dX8_mixBooks_44 kc_4 ?_
        refine g_iload_n (pc := 45) C 1 rfl dX8_mixBooks_45 rfl ?_
        refine g_imul (pc := 46) C dX8_mixBooks_46 ?_
        refine g_iload_n (pc := 47) C 2 rfl dX8_mixBooks_47 rfl ?_
        refine g_iadd (pc := 48) C dX8_mixBooks_48 ?_
        refine g_iald (pc := 49) C si_155 dX8_mixBooks_49 (fun hb25 => ?_)
        refine g_i2l (pc := 50) C dX8_mixBooks_50 ?_
        refine g_callV (pc := 51) (rest := []) (g_runV C mv_RX8_321 (fun x1 hx1 => m_X8_mix hx1) so_RX8 rfl (by decide) rfl rfl (Nat.le_of_ble_eq_true rfl) dX8_mixBooks_51) (fun h26 => ?_)
        refine g_iinc (pc := 54) C 2 rfl dX8_mixBooks_54 (ki_1 _) (by decide) (lv' := [(2, .int (x2 + (1 : Int32))), (0, .ref (w.2.1 (147))), (1, .int x1)]) rfl ?_
        refine g_goto (pc := 57) (tgt := 25) C dX8_mixBooks_57 (by decide) ?_
        refine g_lv (lv' := [(0, .ref (w.2.1 (147))), (1, .int x1), (2, .int (x2 + (1 : Int32)))]) [1, 2, 0] rfl ?_
        exact ih x1 (x2 + (1 : Int32)) h26
def f_X8_mixBooks_23  (k2 : Int32 → TT → Option TT) (x1 : Int32) (h : TT) : Option TT := f_X8_mixBooks_25 k2 KF x1 (0 : Int32) h
set_option maxRecDepth 20000 in
theorem j_X8_mixBooks_23 {p : Program} {l : Launch} {e : Env} {R : Room} {s : State} {m : MethodId} {args : Array Value} {below : List Frame} {meth : Method} {c : Code} {w : WK} (C : CX p R s m args meth c w RX8 cX8_mixBooks 3 none 2 45)    {k2 : Int32 → TT → Option TT} (hk2 : ∀ (x1 : Int32)  (h : TT), GO p l e R s m args below meth c w 3 fV (k2 x1 h) 2 [(0, .ref (w.2.1 (147))), (1, .int x1)] [] h) (x1 : Int32)  (h : TT) : GO p l e R s m args below meth c w 3 fV (f_X8_mixBooks_23 k2 x1 h) 23 [(0, .ref (w.2.1 (147))), (1, .int x1)] [] h := by
  unfold f_X8_mixBooks_23
  refine g_iconst (pc := 23) (v := 0) C dX8_mixBooks_23 kc_0 ?_
  refine g_istore_n (pc := 24) C dX8_mixBooks_24 rfl (by decide) (lv' := [(2, .int (0 : Int32)), (0, .ref (w.2.1 (147))), (1, .int x1)]) rfl ?_
  refine g_lv (lv' := [(0, .ref (w.2.1 (147))), (1, .int x1), (2, .int (0 : Int32))]) [1, 2, 0] rfl ?_
  exact j_X8_mixBooks_25 C hk2 KF x1 (0 : Int32) h
def f_X8_mixBooks_2   : Nat → Int32 → TT → Option TT
  | 0, _, _ => none
  | n + 1, x1, h => (if (4 : Int32) ≤ x1 then f_X8_mixBooks_68 KF (0 : Int32) h else if inb x1 4 = true then (if (h.1 154 x1.toNatClampNeg) = 0 then (f_X8_mix h (-1 : Int64)).bind fun h21 => f_X8_mixBooks_23 (f_X8_mixBooks_2 n) x1 h21 else f_X8_mixBooks_23 (f_X8_mixBooks_2 n) x1 h) else none)
set_option maxRecDepth 20000 in
theorem j_X8_mixBooks_2 {p : Program} {l : Launch} {e : Env} {R : Room} {s : State} {m : MethodId} {args : Array Value} {below : List Frame} {meth : Method} {c : Code} {w : WK} (C : CX p R s m args meth c w RX8 cX8_mixBooks 3 none 2 45)     : ∀ (n : Nat) (x1 : Int32) (h : TT), GO p l e R s m args below meth c w 3 fV (f_X8_mixBooks_2 n x1 h) 2 [(0, .ref (w.2.1 (147))), (1, .int x1)] [] h := by
  intro n
  induction n with
  | zero =>
    intro x1 h
    exact g_none
  | succ n ih =>
    intro x1 h
    rw [f_X8_mixBooks_2]
    refine g_iload_n (pc := 2) C 1 rfl dX8_mixBooks_2 rfl ?_
    refine g_iconst (pc := 3) (v := 4) C dX8_mixBooks_3 kc_4 ?_
    refine g_icmp_ge (pc := 4) (tgt := 66) C dX8_mixBooks_4 (by decide) (fun hc1 => ?_) (fun hc1 => ?_)
    · refine g_iconst (pc := 66) (v := 0) C dX8_mixBooks_66 kc_0 ?_
      refine g_istore_n (pc := 67) C dX8_mixBooks_67 rfl (by decide) (lv' := [(1, .int (0 : Int32)), (0, .ref (w.2.1 (147)))]) rfl ?_
      refine g_lv (lv' := [(0, .ref (w.2.1 (147))), (1, .int (0 : Int32))]) [1, 0] rfl ?_
      exact j_X8_mixBooks_68 C KF (0 : Int32) h
    · refine g_aload_n (pc := 7) C 0 rfl dX8_mixBooks_7 rfl ?_
      refine g_get (pc := 8) C so_RX8 10 fl_RX8_29 (v := .ref (w.2.1 (154))) rfl dX8_mixBooks_8 ?_
      refine g_iload_n (pc := 11) C 1 rfl dX8_mixBooks_11 rfl ?_
      refine g_zald (pc := 12) C sz_154 dX8_mixBooks_12 (fun hb19 => ?_)
      refine g_if_ne (pc := 13) (tgt := 23) C dX8_mixBooks_13 (by decide) (fun hc20 => ?_) (fun hc20 => ?_)
      · refine g_aload_n (pc := 16) C 0 rfl dX8_mixBooks_16 rfl ?_
        refine g_ldc2 (pc := 17) C wd_RX8_319 dX8_mixBooks_17 ?_
        refine g_callV (pc := 20) (rest := []) (g_runV C mv_RX8_321 (fun x1 hx1 => m_X8_mix hx1) so_RX8 rfl (by decide) rfl rfl (Nat.le_of_ble_eq_true rfl) dX8_mixBooks_20) (fun h21 => ?_)
        exact j_X8_mixBooks_23 C ih x1 h21
      · exact j_X8_mixBooks_23 C ih x1 h
def f_X8_mixBooks (h : TT)  : Option TT := f_X8_mixBooks_2 KF (0 : Int32) h
set_option maxRecDepth 20000 in
theorem m_X8_mixBooks {l : Launch} {w : WK} {h : TT}  {x : TT} (hx : f_X8_mixBooks h  = some x)  : Met l yX8_mixBooks (Cond.code yX8_mixBooks cX8_mixBooks 3 none :: wsG) { frames := 2, cells := 0, slots := 0, locals := 45 } (PG w [.ref (w.2.1 (147))] h) (QG w (fV x)) 0 0 (AA w) := by
  refine m_entry (own := RX8) (f := fV) hx (by decide) rfl (Nat.le_of_ble_eq_true rfl) (fun p e s m args below meth c C => ?_)
  show GO p l e _ s m args below meth c w 3 fV (f_X8_mixBooks h ) 0 [(0, .ref (w.2.1 (147)))] [] h
  unfold f_X8_mixBooks
  refine g_iconst (pc := 0) (v := 0) C dX8_mixBooks_0 kc_0 ?_
  refine g_istore_n (pc := 1) C dX8_mixBooks_1 rfl (by decide) (lv' := [(1, .int (0 : Int32)), (0, .ref (w.2.1 (147)))]) rfl ?_
  refine g_lv (lv' := [(0, .ref (w.2.1 (147))), (1, .int (0 : Int32))]) [1, 0] rfl ?_
  exact j_X8_mixBooks_2 C KF (0 : Int32) h
/-- SnowHouseModel.mixHouse()V -/
def f_X8_mixHouse_28  (k16 : Int32 → TT → Option TT) : Nat → Int32 → Int32 → TT → Option TT
  | 0, _, _, _ => none
  | n + 1, x1, x2, h => (if (5 : Int32) ≤ x2 then k16 (x1 + (1 : Int32)) h else (f_X8_blockTells h x1 x2).bind fun r8 => (f_X8_mix h r8.toInt64).bind fun h9 => f_X8_mixHouse_28 k16 n x1 (x2 + (1 : Int32)) h9)
set_option maxRecDepth 20000 in
theorem j_X8_mixHouse_28 {p : Program} {l : Launch} {e : Env} {R : Room} {s : State} {m : MethodId} {args : Array Value} {below : List Frame} {meth : Method} {c : Code} {w : WK} (C : CX p R s m args meth c w RX8 cX8_mixHouse 3 none 7 150)    {k16 : Int32 → TT → Option TT} (hk16 : ∀ (x1 : Int32)  (h : TT), GO p l e R s m args below meth c w 3 fV (k16 x1 h) 16 [(0, .ref (w.2.1 (147))), (1, .int x1)] [] h) : ∀ (n : Nat) (x1 : Int32) (x2 : Int32) (h : TT), GO p l e R s m args below meth c w 3 fV (f_X8_mixHouse_28 k16 n x1 x2 h) 28 [(0, .ref (w.2.1 (147))), (1, .int x1), (2, .int x2)] [] h := by
  intro n
  induction n with
  | zero =>
    intro x1 x2 h
    exact g_none
  | succ n ih =>
    intro x1 x2 h
    rw [f_X8_mixHouse_28]
    refine g_iload_n (pc := 28) C 2 rfl dX8_mixHouse_28 rfl ?_
    refine g_iconst (pc := 29) (v := 5) C dX8_mixHouse_29 kc_5 ?_
    refine g_icmp_ge (pc := 30) (tgt := 50) C dX8_mixHouse_30 (by decide) (fun hc7 => ?_) (fun hc7 => ?_)
    · refine g_iinc (pc := 50) C 1 rfl dX8_mixHouse_50 (ki_1 _) (by decide) (lv' := [(1, .int (x1 + (1 : Int32))), (0, .ref (w.2.1 (147))), (2, .int x2)]) rfl ?_
      refine g_goto (pc := 53) (tgt := 16) C dX8_mixHouse_53 (by decide) ?_
      refine g_lv (lv' := [(0, .ref (w.2.1 (147))), (1, .int (x1 + (1 : Int32)))]) [1, 0] rfl ?_
      exact hk16 (x1 + (1 : Int32)) h
    · refine g_aload_n (pc := 33) C 0 rfl dX8_mixHouse_33 rfl ?_
      refine g_aload_n (pc := 34) C 0 rfl dX8_mixHouse_34 rfl ?_
      refine g_iload_n (pc := 35) C 1 rfl dX8_mixHouse_35 rfl ?_
      refine g_iload_n (pc := 36) C 2 rfl dX8_mixHouse_36 rfl ?_
      refine g_callI (pc := 37) (rest := [.ref (w.2.1 (147))]) (g_runV C mv_RX8_245 (fun x1 hx1 => m_X8_blockTells hx1) so_RX8 rfl (by decide) rfl rfl (Nat.le_of_ble_eq_true rfl) dX8_mixHouse_37) (fun r8 => ?_)
      refine g_i2l (pc := 40) C dX8_mixHouse_40 ?_
      refine g_callV (pc := 41) (rest := []) (g_runV C mv_RX8_321 (fun x1 hx1 => m_X8_mix hx1) so_RX8 rfl (by decide) rfl rfl (Nat.le_of_ble_eq_true rfl) dX8_mixHouse_41) (fun h9 => ?_)
      refine g_iinc (pc := 44) C 2 rfl dX8_mixHouse_44 (ki_1 _) (by decide) (lv' := [(2, .int (x2 + (1 : Int32))), (0, .ref (w.2.1 (147))), (1, .int x1)]) rfl ?_
      refine g_goto (pc := 47) (tgt := 28) C dX8_mixHouse_47 (by decide) ?_
      refine g_lv (lv' := [(0, .ref (w.2.1 (147))), (1, .int x1), (2, .int (x2 + (1 : Int32)))]) [1, 2, 0] rfl ?_
      exact ih x1 (x2 + (1 : Int32)) h9
def f_X8_mixHouse_16   : Nat → Int32 → TT → Option TT
  | 0, _, _ => none
  | n + 1, x1, h => (f_X8_v h (31 : Int32)).bind fun r5 => (if r5 ≤ x1 then some h else f_X8_mixHouse_28 (f_X8_mixHouse_16 n) KF x1 (0 : Int32) h)
set_option maxRecDepth 20000 in
theorem j_X8_mixHouse_16 {p : Program} {l : Launch} {e : Env} {R : Room} {s : State} {m : MethodId} {args : Array Value} {below : List Frame} {meth : Method} {c : Code} {w : WK} (C : CX p R s m args meth c w RX8 cX8_mixHouse 3 none 7 150)     : ∀ (n : Nat) (x1 : Int32) (h : TT), GO p l e R s m args below meth c w 3 fV (f_X8_mixHouse_16 n x1 h) 16 [(0, .ref (w.2.1 (147))), (1, .int x1)] [] h := by
  intro n
  induction n with
  | zero =>
    intro x1 h
    exact g_none
  | succ n ih =>
    intro x1 h
    rw [f_X8_mixHouse_16]
    refine g_iload_n (pc := 16) C 1 rfl dX8_mixHouse_16 rfl ?_
    refine g_aload_n (pc := 17) C 0 rfl dX8_mixHouse_17 rfl ?_
    refine g_bipush (pc := 18) (v := 31) C dX8_mixHouse_18 kb_31 ?_
    refine g_callI (pc := 20) (rest := [.int x1]) (g_runV C mv_RX8_154 (fun x1 hx1 => m_X8_v hx1) so_RX8 rfl (by decide) rfl rfl (Nat.le_of_ble_eq_true rfl) dX8_mixHouse_20) (fun r5 => ?_)
    refine g_icmp_ge (pc := 23) (tgt := 56) C dX8_mixHouse_23 (by decide) (fun hc6 => ?_) (fun hc6 => ?_)
    · refine g_goto (pc := 56) (tgt := 66) C dX8_mixHouse_56 (by decide) ?_
      exact g_vret C dX8_mixHouse_66
    · refine g_iconst (pc := 26) (v := 0) C dX8_mixHouse_26 kc_0 ?_
      refine g_istore_n (pc := 27) C dX8_mixHouse_27 rfl (by decide) (lv' := [(2, .int (0 : Int32)), (0, .ref (w.2.1 (147))), (1, .int x1)]) rfl ?_
      refine g_lv (lv' := [(0, .ref (w.2.1 (147))), (1, .int x1), (2, .int (0 : Int32))]) [1, 2, 0] rfl ?_
      exact j_X8_mixHouse_28 C ih KF x1 (0 : Int32) h
def f_X8_mixHouse (h : TT)  : Option TT := (f_X8_look h (0 : Int32)).bind fun h1 => if inb (0 : Int32) 4 = true then (if (h1.1 160 (0 : Int32).toNatClampNeg) = 0 then (f_X8_mix h1 (-1 : Int64)).bind fun h4 => some h4 else f_X8_mixHouse_16 KF (0 : Int32) h1) else none
set_option maxRecDepth 20000 in
theorem m_X8_mixHouse {l : Launch} {w : WK} {h : TT}  {x : TT} (hx : f_X8_mixHouse h  = some x)  : Met l yX8_mixHouse (Cond.code yX8_mixHouse cX8_mixHouse 3 none :: wsG) { frames := 7, cells := 0, slots := 0, locals := 150 } (PG w [.ref (w.2.1 (147))] h) (QG w (fV x)) 0 0 (AA w) := by
  refine m_entry (own := RX8) (f := fV) hx (by decide) rfl (Nat.le_of_ble_eq_true rfl) (fun p e s m args below meth c C => ?_)
  show GO p l e _ s m args below meth c w 3 fV (f_X8_mixHouse h ) 0 [(0, .ref (w.2.1 (147)))] [] h
  unfold f_X8_mixHouse
  refine g_aload_n (pc := 0) C 0 rfl dX8_mixHouse_0 rfl ?_
  refine g_iconst (pc := 1) (v := 0) C dX8_mixHouse_1 kc_0 ?_
  refine g_callV (pc := 2) (rest := []) (g_runV C mv_RX8_167 (fun x1 hx1 => m_X8_look hx1) so_RX8 rfl (by decide) rfl rfl (Nat.le_of_ble_eq_true rfl) dX8_mixHouse_2) (fun h1 => ?_)
  refine g_aload_n (pc := 5) C 0 rfl dX8_mixHouse_5 rfl ?_
  refine g_get (pc := 6) C so_RX8 20 fl_RX8_48 (v := .ref (w.2.1 (160))) rfl dX8_mixHouse_6 ?_
  refine g_iconst (pc := 9) (v := 0) C dX8_mixHouse_9 kc_0 ?_
  refine g_zald (pc := 10) C sz_160 dX8_mixHouse_10 (fun hb2 => ?_)
  refine g_if_eq (pc := 11) (tgt := 59) C dX8_mixHouse_11 (by decide) (fun hc3 => ?_) (fun hc3 => ?_)
  · refine g_aload_n (pc := 59) C 0 rfl dX8_mixHouse_59 rfl ?_
    refine g_ldc2 (pc := 60) C wd_RX8_319 dX8_mixHouse_60 ?_
    refine g_callV (pc := 63) (rest := []) (g_runV C mv_RX8_321 (fun x1 hx1 => m_X8_mix hx1) so_RX8 rfl (by decide) rfl rfl (Nat.le_of_ble_eq_true rfl) dX8_mixHouse_63) (fun h4 => ?_)
    exact g_vret C dX8_mixHouse_66
  · refine g_iconst (pc := 14) (v := 0) C dX8_mixHouse_14 kc_0 ?_
    refine g_istore_n (pc := 15) C dX8_mixHouse_15 rfl (by decide) (lv' := [(1, .int (0 : Int32)), (0, .ref (w.2.1 (147)))]) rfl ?_
    refine g_lv (lv' := [(0, .ref (w.2.1 (147))), (1, .int (0 : Int32))]) [1, 0] rfl ?_
    exact j_X8_mixHouse_16 C KF (0 : Int32) h1
/-- SnowHouseModel.digest()J -/
def f_X8_digest_113  (k95 : Int32 → TT → Option (Int64 × TT)) : Nat → Int32 → Int32 → TT → Option (Int64 × TT)
  | 0, _, _, _ => none
  | n + 1, x1, x2, h => if inb x1 4 = true then (if (h.1 152 x1.toNatClampNeg) ≤ x2 then k95 (x1 + (1 : Int32)) h else (f_X8_byteAt h x1 x2).bind fun r11 => (f_X8_mix h r11.toInt64).bind fun h12 => f_X8_digest_113 k95 n x1 (x2 + (1 : Int32)) h12) else none
set_option maxRecDepth 20000 in
theorem j_X8_digest_113 {p : Program} {l : Launch} {e : Env} {R : Room} {s : State} {m : MethodId} {args : Array Value} {below : List Frame} {meth : Method} {c : Code} {w : WK} (C : CX p R s m args meth c w RX8 cX8_digest 3 (some .long) 8 172)    {k95 : Int32 → TT → Option (Int64 × TT)} (hk95 : ∀ (x1 : Int32)  (h : TT), GO p l e R s m args below meth c w 3 fJT (k95 x1 h) 95 [(0, .ref (w.2.1 (147))), (1, .int x1)] [] h) : ∀ (n : Nat) (x1 : Int32) (x2 : Int32) (h : TT), GO p l e R s m args below meth c w 3 fJT (f_X8_digest_113 k95 n x1 x2 h) 113 [(0, .ref (w.2.1 (147))), (1, .int x1), (2, .int x2)] [] h := by
  intro n
  induction n with
  | zero =>
    intro x1 x2 h
    exact g_none
  | succ n ih =>
    intro x1 x2 h
    rw [f_X8_digest_113]
    refine g_iload_n (pc := 113) C 2 rfl dX8_digest_113 rfl ?_
    refine g_aload_n (pc := 114) C 0 rfl dX8_digest_114 rfl ?_
    refine g_get (pc := 115) C so_RX8 8 fl_RX8_22 (v := .ref (w.2.1 (152))) rfl dX8_digest_115 ?_
    refine g_iload_n (pc := 118) C 1 rfl dX8_digest_118 rfl ?_
    refine g_iald (pc := 119) C si_152 dX8_digest_119 (fun hb9 => ?_)
    refine g_icmp_ge (pc := 120) (tgt := 140) C dX8_digest_120 (by decide) (fun hc10 => ?_) (fun hc10 => ?_)
    · refine g_iinc (pc := 140) C 1 rfl dX8_digest_140 (ki_1 _) (by decide) (lv' := [(1, .int (x1 + (1 : Int32))), (0, .ref (w.2.1 (147))), (2, .int x2)]) rfl ?_
      refine g_goto (pc := 143) (tgt := 95) C dX8_digest_143 (by decide) ?_
      refine g_lv (lv' := [(0, .ref (w.2.1 (147))), (1, .int (x1 + (1 : Int32)))]) [1, 0] rfl ?_
      exact hk95 (x1 + (1 : Int32)) h
    · refine g_aload_n (pc := 123) C 0 rfl dX8_digest_123 rfl ?_
      refine g_aload_n (pc := 124) C 0 rfl dX8_digest_124 rfl ?_
      refine g_iload_n (pc := 125) C 1 rfl dX8_digest_125 rfl ?_
      refine g_iload_n (pc := 126) C 2 rfl dX8_digest_126 rfl ?_
      refine g_callI (pc := 127) (rest := [.ref (w.2.1 (147))]) (g_runV C mv_RX8_102 (fun x1 hx1 => m_X8_byteAt hx1) so_RX8 rfl (by decide) rfl rfl (Nat.le_of_ble_eq_true rfl) dX8_digest_127) (fun r11 => ?_)
      refine g_i2l (pc := 130) C dX8_digest_130 ?_
      refine g_callV (pc := 131) (rest := []) (g_runV C mv_RX8_321 (fun x1 hx1 => m_X8_mix hx1) so_RX8 rfl (by decide) rfl rfl (Nat.le_of_ble_eq_true rfl) dX8_digest_131) (fun h12 => ?_)
      refine g_iinc (pc := 134) C 2 rfl dX8_digest_134 (ki_1 _) (by decide) (lv' := [(2, .int (x2 + (1 : Int32))), (0, .ref (w.2.1 (147))), (1, .int x1)]) rfl ?_
      refine g_goto (pc := 137) (tgt := 113) C dX8_digest_137 (by decide) ?_
      refine g_lv (lv' := [(0, .ref (w.2.1 (147))), (1, .int x1), (2, .int (x2 + (1 : Int32)))]) [1, 2, 0] rfl ?_
      exact ih x1 (x2 + (1 : Int32)) h12
def f_X8_digest_95   : Nat → Int32 → TT → Option (Int64 × TT)
  | 0, _, _ => none
  | n + 1, x1, h => (if (4 : Int32) ≤ x1 then some (h.2 147 28, h) else if inb x1 4 = true then (f_X8_mix h ((h.1 152 x1.toNatClampNeg).toInt64)).bind fun h8 => f_X8_digest_113 (f_X8_digest_95 n) KF x1 (0 : Int32) h8 else none)
set_option maxRecDepth 20000 in
theorem j_X8_digest_95 {p : Program} {l : Launch} {e : Env} {R : Room} {s : State} {m : MethodId} {args : Array Value} {below : List Frame} {meth : Method} {c : Code} {w : WK} (C : CX p R s m args meth c w RX8 cX8_digest 3 (some .long) 8 172)     : ∀ (n : Nat) (x1 : Int32) (h : TT), GO p l e R s m args below meth c w 3 fJT (f_X8_digest_95 n x1 h) 95 [(0, .ref (w.2.1 (147))), (1, .int x1)] [] h := by
  intro n
  induction n with
  | zero =>
    intro x1 h
    exact g_none
  | succ n ih =>
    intro x1 h
    rw [f_X8_digest_95]
    refine g_iload_n (pc := 95) C 1 rfl dX8_digest_95 rfl ?_
    refine g_iconst (pc := 96) (v := 4) C dX8_digest_96 kc_4 ?_
    refine g_icmp_ge (pc := 97) (tgt := 146) C dX8_digest_97 (by decide) (fun hc6 => ?_) (fun hc6 => ?_)
    · refine g_aload_n (pc := 146) C 0 rfl dX8_digest_146 rfl ?_
      refine g_get (pc := 147) C so_RX8 28 fl_RX8_316 (v := .long (h.2 147 28)) rfl dX8_digest_147 ?_
      exact g_lretT C dX8_digest_150
    · refine g_aload_n (pc := 100) C 0 rfl dX8_digest_100 rfl ?_
      refine g_aload_n (pc := 101) C 0 rfl dX8_digest_101 rfl ?_
      refine g_get (pc := 102) C so_RX8 8 fl_RX8_22 (v := .ref (w.2.1 (152))) rfl dX8_digest_102 ?_
      refine g_iload_n (pc := 105) C 1 rfl dX8_digest_105 rfl ?_
      refine g_iald (pc := 106) C si_152 dX8_digest_106 (fun hb7 => ?_)
      refine g_i2l (pc := 107) C dX8_digest_107 ?_
      refine g_callV (pc := 108) (rest := []) (g_runV C mv_RX8_321 (fun x1 hx1 => m_X8_mix hx1) so_RX8 rfl (by decide) rfl rfl (Nat.le_of_ble_eq_true rfl) dX8_digest_108) (fun h8 => ?_)
      refine g_iconst (pc := 111) (v := 0) C dX8_digest_111 kc_0 ?_
      refine g_istore_n (pc := 112) C dX8_digest_112 rfl (by decide) (lv' := [(2, .int (0 : Int32)), (0, .ref (w.2.1 (147))), (1, .int x1)]) rfl ?_
      refine g_lv (lv' := [(0, .ref (w.2.1 (147))), (1, .int x1), (2, .int (0 : Int32))]) [1, 2, 0] rfl ?_
      exact j_X8_digest_113 C ih KF x1 (0 : Int32) h8
def f_X8_digest_60  (k41 : Int32 → TT → Option (Int64 × TT)) : Nat → Int32 → Int32 → TT → Option (Int64 × TT)
  | 0, _, _, _ => none
  | n + 1, x1, x2, h => if inb x1 6 = true then (if (h.1 149 x1.toNatClampNeg) ≤ x2 then k41 (x1 + (1 : Int32)) h else (f_X8_rowAt h x1 x2).bind fun r17 => (f_X8_mix h r17.toInt64).bind fun h18 => f_X8_digest_60 k41 n x1 (x2 + (1 : Int32)) h18) else none
set_option maxRecDepth 20000 in
theorem j_X8_digest_60 {p : Program} {l : Launch} {e : Env} {R : Room} {s : State} {m : MethodId} {args : Array Value} {below : List Frame} {meth : Method} {c : Code} {w : WK} (C : CX p R s m args meth c w RX8 cX8_digest 3 (some .long) 8 172)    {k41 : Int32 → TT → Option (Int64 × TT)} (hk41 : ∀ (x1 : Int32)  (h : TT), GO p l e R s m args below meth c w 3 fJT (k41 x1 h) 41 [(0, .ref (w.2.1 (147))), (1, .int x1)] [] h) : ∀ (n : Nat) (x1 : Int32) (x2 : Int32) (h : TT), GO p l e R s m args below meth c w 3 fJT (f_X8_digest_60 k41 n x1 x2 h) 60 [(0, .ref (w.2.1 (147))), (1, .int x1), (2, .int x2)] [] h := by
  intro n
  induction n with
  | zero =>
    intro x1 x2 h
    exact g_none
  | succ n ih =>
    intro x1 x2 h
    rw [f_X8_digest_60]
    refine g_iload_n (pc := 60) C 2 rfl dX8_digest_60 rfl ?_
    refine g_aload_n (pc := 61) C 0 rfl dX8_digest_61 rfl ?_
    refine g_get (pc := 62) C so_RX8 5 fl_RX8_13 (v := .ref (w.2.1 (149))) rfl dX8_digest_62 ?_
    refine g_iload_n (pc := 65) C 1 rfl dX8_digest_65 rfl ?_
    refine g_iald (pc := 66) C si_149 dX8_digest_66 (fun hb15 => ?_)
    refine g_icmp_ge (pc := 67) (tgt := 87) C dX8_digest_67 (by decide) (fun hc16 => ?_) (fun hc16 => ?_)
    · refine g_iinc (pc := 87) C 1 rfl dX8_digest_87 (ki_1 _) (by decide) (lv' := [(1, .int (x1 + (1 : Int32))), (0, .ref (w.2.1 (147))), (2, .int x2)]) rfl ?_
      refine g_goto (pc := 90) (tgt := 41) C dX8_digest_90 (by decide) ?_
      refine g_lv (lv' := [(0, .ref (w.2.1 (147))), (1, .int (x1 + (1 : Int32)))]) [1, 0] rfl ?_
      exact hk41 (x1 + (1 : Int32)) h
    · refine g_aload_n (pc := 70) C 0 rfl dX8_digest_70 rfl ?_
      refine g_aload_n (pc := 71) C 0 rfl dX8_digest_71 rfl ?_
      refine g_iload_n (pc := 72) C 1 rfl dX8_digest_72 rfl ?_
      refine g_iload_n (pc := 73) C 2 rfl dX8_digest_73 rfl ?_
      refine g_callI (pc := 74) (rest := [.ref (w.2.1 (147))]) (g_runV C mv_RX8_89 (fun x1 hx1 => m_X8_rowAt hx1) so_RX8 rfl (by decide) rfl rfl (Nat.le_of_ble_eq_true rfl) dX8_digest_74) (fun r17 => ?_)
      refine g_i2l (pc := 77) C dX8_digest_77 ?_
      refine g_callV (pc := 78) (rest := []) (g_runV C mv_RX8_321 (fun x1 hx1 => m_X8_mix hx1) so_RX8 rfl (by decide) rfl rfl (Nat.le_of_ble_eq_true rfl) dX8_digest_78) (fun h18 => ?_)
      refine g_iinc (pc := 81) C 2 rfl dX8_digest_81 (ki_1 _) (by decide) (lv' := [(2, .int (x2 + (1 : Int32))), (0, .ref (w.2.1 (147))), (1, .int x1)]) rfl ?_
      refine g_goto (pc := 84) (tgt := 60) C dX8_digest_84 (by decide) ?_
      refine g_lv (lv' := [(0, .ref (w.2.1 (147))), (1, .int x1), (2, .int (x2 + (1 : Int32)))]) [1, 2, 0] rfl ?_
      exact ih x1 (x2 + (1 : Int32)) h18
def f_X8_digest_41   : Nat → Int32 → TT → Option (Int64 × TT)
  | 0, _, _ => none
  | n + 1, x1, h => (if (6 : Int32) ≤ x1 then f_X8_digest_95 KF (0 : Int32) h else if inb x1 6 = true then (f_X8_mix h ((h.1 149 x1.toNatClampNeg).toInt64)).bind fun h14 => f_X8_digest_60 (f_X8_digest_41 n) KF x1 (0 : Int32) h14 else none)
set_option maxRecDepth 20000 in
theorem j_X8_digest_41 {p : Program} {l : Launch} {e : Env} {R : Room} {s : State} {m : MethodId} {args : Array Value} {below : List Frame} {meth : Method} {c : Code} {w : WK} (C : CX p R s m args meth c w RX8 cX8_digest 3 (some .long) 8 172)     : ∀ (n : Nat) (x1 : Int32) (h : TT), GO p l e R s m args below meth c w 3 fJT (f_X8_digest_41 n x1 h) 41 [(0, .ref (w.2.1 (147))), (1, .int x1)] [] h := by
  intro n
  induction n with
  | zero =>
    intro x1 h
    exact g_none
  | succ n ih =>
    intro x1 h
    rw [f_X8_digest_41]
    refine g_iload_n (pc := 41) C 1 rfl dX8_digest_41 rfl ?_
    refine g_bipush (pc := 42) (v := 6) C dX8_digest_42 kb_6 ?_
    refine g_icmp_ge (pc := 44) (tgt := 93) C dX8_digest_44 (by decide) (fun hc5 => ?_) (fun hc5 => ?_)
    · refine g_iconst (pc := 93) (v := 0) C dX8_digest_93 kc_0 ?_
      refine g_istore_n (pc := 94) C dX8_digest_94 rfl (by decide) (lv' := [(1, .int (0 : Int32)), (0, .ref (w.2.1 (147)))]) rfl ?_
      refine g_lv (lv' := [(0, .ref (w.2.1 (147))), (1, .int (0 : Int32))]) [1, 0] rfl ?_
      exact j_X8_digest_95 C KF (0 : Int32) h
    · refine g_aload_n (pc := 47) C 0 rfl dX8_digest_47 rfl ?_
      refine g_aload_n (pc := 48) C 0 rfl dX8_digest_48 rfl ?_
      refine g_get (pc := 49) C so_RX8 5 fl_RX8_13 (v := .ref (w.2.1 (149))) rfl dX8_digest_49 ?_
      refine g_iload_n (pc := 52) C 1 rfl dX8_digest_52 rfl ?_
      refine g_iald (pc := 53) C si_149 dX8_digest_53 (fun hb13 => ?_)
      refine g_i2l (pc := 54) C dX8_digest_54 ?_
      refine g_callV (pc := 55) (rest := []) (g_runV C mv_RX8_321 (fun x1 hx1 => m_X8_mix hx1) so_RX8 rfl (by decide) rfl rfl (Nat.le_of_ble_eq_true rfl) dX8_digest_55) (fun h14 => ?_)
      refine g_iconst (pc := 58) (v := 0) C dX8_digest_58 kc_0 ?_
      refine g_istore_n (pc := 59) C dX8_digest_59 rfl (by decide) (lv' := [(2, .int (0 : Int32)), (0, .ref (w.2.1 (147))), (1, .int x1)]) rfl ?_
      refine g_lv (lv' := [(0, .ref (w.2.1 (147))), (1, .int x1), (2, .int (0 : Int32))]) [1, 2, 0] rfl ?_
      exact j_X8_digest_60 C ih KF x1 (0 : Int32) h14
def f_X8_digest_9   : Nat → Int32 → TT → Option (Int64 × TT)
  | 0, _, _ => none
  | n + 1, x1, h => (if (8 : Int32) ≤ x1 then (f_X8_mixBooks h).bind fun h3 => (f_X8_mixHouse h3).bind fun h4 => f_X8_digest_41 KF (0 : Int32) h4 else (f_X8_counted h x1).bind fun q19 => (f_X8_mix q19.2 q19.1.toInt64).bind fun h20 => f_X8_digest_9 n (x1 + (1 : Int32)) h20)
set_option maxRecDepth 20000 in
theorem j_X8_digest_9 {p : Program} {l : Launch} {e : Env} {R : Room} {s : State} {m : MethodId} {args : Array Value} {below : List Frame} {meth : Method} {c : Code} {w : WK} (C : CX p R s m args meth c w RX8 cX8_digest 3 (some .long) 8 172)     : ∀ (n : Nat) (x1 : Int32) (h : TT), GO p l e R s m args below meth c w 3 fJT (f_X8_digest_9 n x1 h) 9 [(0, .ref (w.2.1 (147))), (1, .int x1)] [] h := by
  intro n
  induction n with
  | zero =>
    intro x1 h
    exact g_none
  | succ n ih =>
    intro x1 h
    rw [f_X8_digest_9]
    refine g_iload_n (pc := 9) C 1 rfl dX8_digest_9 rfl ?_
    refine g_bipush (pc := 10) (v := 8) C dX8_digest_10 kb_8 ?_
    refine g_icmp_ge (pc := 12) (tgt := 31) C dX8_digest_12 (by decide) (fun hc2 => ?_) (fun hc2 => ?_)
    · refine g_aload_n (pc := 31) C 0 rfl dX8_digest_31 rfl ?_
      refine g_callV (pc := 32) (rest := []) (g_runV C mv_RX8_327 (fun x1 hx1 => m_X8_mixBooks hx1) so_RX8 rfl (by decide) rfl rfl (Nat.le_of_ble_eq_true rfl) dX8_digest_32) (fun h3 => ?_)
      refine g_aload_n (pc := 35) C 0 rfl dX8_digest_35 rfl ?_
      refine g_callV (pc := 36) (rest := []) (g_runV C mv_RX8_330 (fun x1 hx1 => m_X8_mixHouse hx1) so_RX8 rfl (by decide) rfl rfl (Nat.le_of_ble_eq_true rfl) dX8_digest_36) (fun h4 => ?_)
      refine g_iconst (pc := 39) (v := 0) C dX8_digest_39 kc_0 ?_
      refine g_istore_n (pc := 40) C dX8_digest_40 rfl (by decide) (lv' := [(1, .int (0 : Int32)), (0, .ref (w.2.1 (147)))]) rfl ?_
      refine g_lv (lv' := [(0, .ref (w.2.1 (147))), (1, .int (0 : Int32))]) [1, 0] rfl ?_
      exact j_X8_digest_41 C KF (0 : Int32) h4
    · refine g_aload_n (pc := 15) C 0 rfl dX8_digest_15 rfl ?_
      refine g_aload_n (pc := 16) C 0 rfl dX8_digest_16 rfl ?_
      refine g_iload_n (pc := 17) C 1 rfl dX8_digest_17 rfl ?_
      refine g_callIT (pc := 18) (rest := [.ref (w.2.1 (147))]) (g_runV C mv_RX8_311 (fun x1 hx1 => m_X8_counted hx1) so_RX8 rfl (by decide) rfl rfl (Nat.le_of_ble_eq_true rfl) dX8_digest_18) (fun q19 => ?_)
      refine g_i2l (pc := 21) C dX8_digest_21 ?_
      refine g_callV (pc := 22) (rest := []) (g_runV C mv_RX8_321 (fun x1 hx1 => m_X8_mix hx1) so_RX8 rfl (by decide) rfl rfl (Nat.le_of_ble_eq_true rfl) dX8_digest_22) (fun h20 => ?_)
      refine g_iinc (pc := 25) C 1 rfl dX8_digest_25 (ki_1 _) (by decide) (lv' := [(1, .int (x1 + (1 : Int32))), (0, .ref (w.2.1 (147)))]) rfl ?_
      refine g_goto (pc := 28) (tgt := 9) C dX8_digest_28 (by decide) ?_
      refine g_lv (lv' := [(0, .ref (w.2.1 (147))), (1, .int (x1 + (1 : Int32)))]) [1, 0] rfl ?_
      exact ih (x1 + (1 : Int32)) h20
def f_X8_digest (h : TT)  : Option (Int64 × TT) := nm (wrl h 147 28 (17 : Int64)) fun h1 => f_X8_digest_9 KF (0 : Int32) h1
set_option maxRecDepth 20000 in
theorem m_X8_digest {l : Launch} {w : WK} {h : TT}  {x : (Int64 × TT)} (hx : f_X8_digest h  = some x)  : Met l yX8_digest (Cond.code yX8_digest cX8_digest 3 (some .long) :: wsG) { frames := 8, cells := 0, slots := 0, locals := 172 } (PG w [.ref (w.2.1 (147))] h) (QG w (fJT x)) 0 0 (AA w) := by
  refine m_entry (own := RX8) (f := fJT) hx (by decide) rfl (Nat.le_of_ble_eq_true rfl) (fun p e s m args below meth c C => ?_)
  show GO p l e _ s m args below meth c w 3 fJT (f_X8_digest h ) 0 [(0, .ref (w.2.1 (147)))] [] h
  unfold f_X8_digest
  refine g_aload_n (pc := 0) C 0 rfl dX8_digest_0 rfl ?_
  refine g_ldc2 (pc := 1) C wd_RX8_325 dX8_digest_1 ?_
  refine g_putJ (pc := 4) C so_RX8 28 fp_RX8_316 (se_RX8_28 _) rfl rfl (sl_RX8_28) dX8_digest_4 ?_
  refine g_nm (fun h1 => ?_)
  refine g_iconst (pc := 7) (v := 0) C dX8_digest_7 kc_0 ?_
  refine g_istore_n (pc := 8) C dX8_digest_8 rfl (by decide) (lv' := [(1, .int (0 : Int32)), (0, .ref (w.2.1 (147)))]) rfl ?_
  refine g_lv (lv' := [(0, .ref (w.2.1 (147))), (1, .int (0 : Int32))]) [1, 0] rfl ?_
  exact j_X8_digest_9 C KF (0 : Int32) h1
