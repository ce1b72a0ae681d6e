/-- SnowHouse$Indoors.enter(IIIIZ)V -/
def f_X2_enter (h : TT) (x1 : Int32) (x2 : Int32) (x3 : Int32) (x4 : Int32) (x5 : Int32) : Option TT := nm (wr h 135 2 ((-10 : Int32) * x1)) fun h1 => nm (wr h1 135 3 x2) fun h2 => nm (wr h2 135 4 x3) fun h3 => nm (wr h3 135 5 x4) fun h4 => if isZ x5 = true then nm (wr h4 135 6 x5) fun h6 => nm (wr h6 135 1 (100 : Int32)) fun h7 => (f_J7_fill_53178 h7 136 6 (h7.1 135 2)).bind fun h8 => some h8 else none
set_option maxRecDepth 20000 in
theorem m_X2_enter {l : Launch} {w : WK} {h : TT} {x1 : Int32} {x2 : Int32} {x3 : Int32} {x4 : Int32} {x5 : Int32} {x : TT} (hx : f_X2_enter h x1 x2 x3 x4 x5 = some x)  : Met l yX2_enter (Cond.code yX2_enter cX2_enter 6 none :: wsG) { frames := 1, cells := 0, slots := 0, locals := 23 } (PG w [.ref (w.2.1 (135)), .int x1, .int x2, .int x3, .int x4, .int x5] h) (QG w (fV x)) 0 0 (AA w) := by
  refine m_entry (own := RX2) (f := fV) hx (by decide) rfl (Nat.le_of_ble_eq_true rfl) (fun p e s m args below meth c C => ?_)
  show GO p l e _ s m args below meth c w 6 fV (f_X2_enter h x1 x2 x3 x4 x5) 0 [(0, .ref (w.2.1 (135))), (1, .int x1), (2, .int x2), (3, .int x3), (4, .int x4), (5, .int x5)] [] h
  unfold f_X2_enter
  refine g_aload_n (pc := 0) C 0 rfl dX2_enter_0 rfl ?_
  refine g_bipush (pc := 1) (v := -10) C dX2_enter_1 kb_m10 ?_
  refine g_iload_n (pc := 3) C 1 rfl dX2_enter_3 rfl ?_
  refine g_imul (pc := 4) C dX2_enter_4 ?_
  refine g_putI (pc := 5) C so_RX2 2 fp_RX2_15 (se_RX2_2 _) rfl rfl (sl_RX2_2) dX2_enter_5 ?_
  refine g_nm (fun h1 => ?_)
  refine g_aload_n (pc := 8) C 0 rfl dX2_enter_8 rfl ?_
  refine g_iload_n (pc := 9) C 2 rfl dX2_enter_9 rfl ?_
  refine g_putI (pc := 10) C so_RX2 3 fp_RX2_19 (se_RX2_3 _) rfl rfl (sl_RX2_3) dX2_enter_10 ?_
  refine g_nm (fun h2 => ?_)
  refine g_aload_n (pc := 13) C 0 rfl dX2_enter_13 rfl ?_
  refine g_iload_n (pc := 14) C 3 rfl dX2_enter_14 rfl ?_
  refine g_putI (pc := 15) C so_RX2 4 fp_RX2_22 (se_RX2_4 _) rfl rfl (sl_RX2_4) dX2_enter_15 ?_
  refine g_nm (fun h3 => ?_)
  refine g_aload_n (pc := 18) C 0 rfl dX2_enter_18 rfl ?_
  refine g_iload (pc := 19) C 4 rfl dX2_enter_19 ?_
  refine g_putI (pc := 21) C so_RX2 5 fp_RX2_25 (se_RX2_5 _) rfl rfl (sl_RX2_5) dX2_enter_21 ?_
  refine g_nm (fun h4 => ?_)
  refine g_aload_n (pc := 24) C 0 rfl dX2_enter_24 rfl ?_
  refine g_iload (pc := 25) C 5 rfl dX2_enter_25 ?_
  refine g_guard (fun hz5 => ?_)
  refine g_putI (pc := 27) C so_RX2 6 fp_RX2_28 (se_RX2_6 _) (isZ_nar hz5) (isZ_fit hz5) (sl_RX2_6) dX2_enter_27 ?_
  refine g_nm (fun h6 => ?_)
  refine g_aload_n (pc := 30) C 0 rfl dX2_enter_30 rfl ?_
  refine g_bipush (pc := 31) (v := 100) C dX2_enter_31 kb_100 ?_
  refine g_putI (pc := 33) C so_RX2 1 fp_RX2_32 (se_RX2_1 _) rfl rfl (sl_RX2_1) dX2_enter_33 ?_
  refine g_nm (fun h7 => ?_)
  refine g_aload_n (pc := 36) C 0 rfl dX2_enter_36 rfl ?_
  refine g_get (pc := 37) C so_RX2 0 fl_RX2_9 (v := .ref (w.2.1 (136))) rfl dX2_enter_37 ?_
  refine g_aload_n (pc := 40) C 0 rfl dX2_enter_40 rfl ?_
  refine g_get (pc := 41) C so_RX2 2 fl_RX2_15 (v := .int (h7.1 135 2)) rfl dX2_enter_41 ?_
  refine g_callV (pc := 44) (rest := []) (g_runS C ms_RX2_35 (fun x1 hx1 => m_J7_fill_53178 hx1 si_136) (by decide) rfl rfl (Nat.le_of_ble_eq_true rfl) dX2_enter_44) (fun h8 => ?_)
  exact g_vret C dX2_enter_47
/-- SnowHouse$Indoors.riseFrom(I)V -/
def f_X2_riseFrom (h : TT) (x1 : Int32) : Option TT := (f_X7_isBelow h x1 (5 : Int32)).bind fun r1 => (if r1 = 0 then some h else if inb x1 6 = true then if inb (x1 + (1 : Int32)) 6 = true then (if (h.1 136 (x1 + (1 : Int32)).toNatClampNeg) < (h.1 136 x1.toNatClampNeg) then if inb x1 6 = true then nm (h.1 136 x1.toNatClampNeg) fun y7 => if inb (x1 + (1 : Int32)) 6 = true then if inb x1 6 = true then nm (wr h 136 x1.toNatClampNeg (h.1 136 (x1 + (1 : Int32)).toNatClampNeg)) fun h10 => if inb (x1 + (1 : Int32)) 6 = true then nm (wr h10 136 (x1 + (1 : Int32)).toNatClampNeg y7) fun h12 => some h12 else none else none else none else none else some h) else none else none)
set_option maxRecDepth 20000 in
theorem m_X2_riseFrom {l : Launch} {w : WK} {h : TT} {x1 : Int32} {x : TT} (hx : f_X2_riseFrom h x1 = some x)  : Met l yX2_riseFrom (Cond.code yX2_riseFrom cX2_riseFrom 3 none :: wsG) { frames := 1, cells := 0, slots := 0, locals := 21 } (PG w [.ref (w.2.1 (135)), .int x1] h) (QG w (fV x)) 0 0 (AA w) := by
  refine m_entry (own := RX2) (f := fV) hx (by decide) rfl (Nat.le_of_ble_eq_true rfl) (fun p e s m args below meth c C => ?_)
  show GO p l e _ s m args below meth c w 3 fV (f_X2_riseFrom h x1) 0 [(0, .ref (w.2.1 (135))), (1, .int x1)] [] h
  unfold f_X2_riseFrom
  refine g_iload_n (pc := 0) C 1 rfl dX2_riseFrom_0 rfl ?_
  refine g_iconst (pc := 1) (v := 5) C dX2_riseFrom_1 kc_5 ?_
  refine g_callI (pc := 2) (rest := []) (g_runN C mn_RX2_54 (fun x1 hx1 => m_X7_isBelow hx1) (by decide) rfl rfl (Nat.le_of_ble_eq_true rfl) dX2_riseFrom_2) (fun r1 => ?_)
  refine g_if_eq (pc := 5) (tgt := 25) C dX2_riseFrom_5 (by decide) (fun hc2 => ?_) (fun hc2 => ?_)
  · exact g_vret C dX2_riseFrom_25
  · refine g_aload_n (pc := 8) C 0 rfl dX2_riseFrom_8 rfl ?_
    refine g_get (pc := 9) C so_RX2 0 fl_RX2_9 (v := .ref (w.2.1 (136))) rfl dX2_riseFrom_9 ?_
    refine g_iload_n (pc := 12) C 1 rfl dX2_riseFrom_12 rfl ?_
    refine g_iald (pc := 13) C si_136 dX2_riseFrom_13 (fun hb3 => ?_)
    refine g_aload_n (pc := 14) C 0 rfl dX2_riseFrom_14 rfl ?_
    refine g_get (pc := 15) C so_RX2 0 fl_RX2_9 (v := .ref (w.2.1 (136))) rfl dX2_riseFrom_15 ?_
    refine g_iload_n (pc := 18) C 1 rfl dX2_riseFrom_18 rfl ?_
    refine g_iconst (pc := 19) (v := 1) C dX2_riseFrom_19 kc_1 ?_
    refine g_iadd (pc := 20) C dX2_riseFrom_20 ?_
    refine g_iald (pc := 21) C si_136 dX2_riseFrom_21 (fun hb4 => ?_)
    refine g_icmp_gt (pc := 22) (tgt := 26) C dX2_riseFrom_22 (by decide) (fun hc5 => ?_) (fun hc5 => ?_)
    · refine g_aload_n (pc := 26) C 0 rfl dX2_riseFrom_26 rfl ?_
      refine g_get (pc := 27) C so_RX2 0 fl_RX2_9 (v := .ref (w.2.1 (136))) rfl dX2_riseFrom_27 ?_
      refine g_iload_n (pc := 30) C 1 rfl dX2_riseFrom_30 rfl ?_
      refine g_iald (pc := 31) C si_136 dX2_riseFrom_31 (fun hb6 => ?_)
      refine g_nmi (fun y7 => ?_)
      refine g_istore_n (pc := 32) C dX2_riseFrom_32 rfl (by decide) (lv' := [(2, .int y7), (0, .ref (w.2.1 (135))), (1, .int x1)]) rfl ?_
      refine g_aload_n (pc := 33) C 1 rfl dX2_riseFrom_33 rfl ?_
      refine g_get (pc := 34) C so_RX2 0 fl_RX2_9 (v := .ref (w.2.1 (136))) rfl dX2_riseFrom_34 ?_
      refine g_iload_n (pc := 37) C 2 rfl dX2_riseFrom_37 rfl ?_
      refine g_aload_n (pc := 38) C 1 rfl dX2_riseFrom_38 rfl ?_
      refine g_get (pc := 39) C so_RX2 0 fl_RX2_9 (v := .ref (w.2.1 (136))) rfl dX2_riseFrom_39 ?_
      refine g_iload_n (pc := 42) C 2 rfl dX2_riseFrom_42 rfl ?_
      refine g_iconst (pc := 43) (v := 1) C dX2_riseFrom_43 kc_1 ?_
      refine g_iadd (pc := 44) C dX2_riseFrom_44 ?_
      refine g_iald (pc := 45) C si_136 dX2_riseFrom_45 (fun hb8 => ?_)
      refine g_iast (pc := 46) C si_136 dX2_riseFrom_46 (fun hb9 => ?_)
      refine g_nm (fun h10 => ?_)
      refine g_aload_n (pc := 47) C 1 rfl dX2_riseFrom_47 rfl ?_
      refine g_get (pc := 48) C so_RX2 0 fl_RX2_9 (v := .ref (w.2.1 (136))) rfl dX2_riseFrom_48 ?_
      refine g_iload_n (pc := 51) C 2 rfl dX2_riseFrom_51 rfl ?_
      refine g_iconst (pc := 52) (v := 1) C dX2_riseFrom_52 kc_1 ?_
      refine g_iadd (pc := 53) C dX2_riseFrom_53 ?_
      refine g_iload_n (pc := 54) C 0 rfl dX2_riseFrom_54 rfl ?_
      refine g_iast (pc := 55) C si_136 dX2_riseFrom_55 (fun hb11 => ?_)
      refine g_nm (fun h12 => ?_)
      exact g_vret C dX2_riseFrom_56
    · exact g_vret C dX2_riseFrom_25
/-- SnowHouse$Indoors.hour()V -/
def f_X2_hour_202   (xs0 : Int32) (xs1 : Int32) (h : TT) : Option TT := nm (xs1 + xs0) fun y19 => nm (wr h 135 1 (imax (0 : Int32) (imin (100 : Int32) y19))) fun h20 => some h20
set_option maxRecDepth 20000 in
theorem j_X2_hour_202 {p : Program} {l : Launch} {e : Env} {R : Room} {s : State} {m : MethodId} {args : Array Value} {below : List Frame} {meth : Method} {c : Code} {w : WK} (C : CX p R s m args meth c w RX2 cX2_hour 2 none 2 43)     (xs0 : Int32) (xs1 : Int32)  (h : TT) : GO p l e R s m args below meth c w 2 fV (f_X2_hour_202 xs0 xs1 h) 202 [(0, .ref (w.2.1 (135)))] [.int xs0, .int xs1] h := by
  unfold f_X2_hour_202
  refine g_iadd (pc := 202) C dX2_hour_202 ?_
  refine g_nmi (fun y19 => ?_)
  refine g_istore_n (pc := 203) C dX2_hour_203 rfl (by decide) (lv' := [(1, .int y19), (0, .ref (w.2.1 (135)))]) rfl ?_
  refine g_aload_n (pc := 204) C 1 rfl dX2_hour_204 rfl ?_
  refine g_iconst (pc := 205) (v := 0) C dX2_hour_205 kc_0 ?_
  refine g_bipush (pc := 206) (v := 100) C dX2_hour_206 kb_100 ?_
  refine g_iload_n (pc := 208) C 0 rfl dX2_hour_208 rfl ?_
  refine g_min (pc := 209) C wm_RX2_45 wst_min wini_math wco_min (by decide) (by decide) (Nat.le_of_ble_eq_true rfl) dX2_hour_209 ?_
  refine g_max (pc := 212) C wm_RX2_51 wst_max wini_math wco_max (by decide) (by decide) (Nat.le_of_ble_eq_true rfl) dX2_hour_212 ?_
  refine g_putI (pc := 215) C so_RX2 1 fp_RX2_32 (se_RX2_1 _) rfl rfl (sl_RX2_1) dX2_hour_215 ?_
  refine g_nm (fun h20 => ?_)
  exact g_vret C dX2_hour_218
def f_X2_hour_167    (h : TT) : Option TT := (if (h.1 135 6) = 0 then f_X2_hour_202 (2 : Int32) ((((h.1 135 1) - ((2 : Int32) * (h.1 135 4))) - (h.1 135 3)) + ((3 : Int32) * (h.1 135 5))) h else f_X2_hour_202 (0 : Int32) ((((h.1 135 1) - ((2 : Int32) * (h.1 135 4))) - (h.1 135 3)) + ((3 : Int32) * (h.1 135 5))) h)
set_option maxRecDepth 20000 in
theorem j_X2_hour_167 {p : Program} {l : Launch} {e : Env} {R : Room} {s : State} {m : MethodId} {args : Array Value} {below : List Frame} {meth : Method} {c : Code} {w : WK} (C : CX p R s m args meth c w RX2 cX2_hour 2 none 2 43)       (h : TT) : GO p l e R s m args below meth c w 2 fV (f_X2_hour_167 h) 167 [(0, .ref (w.2.1 (135)))] [] h := by
  unfold f_X2_hour_167
  refine g_aload_n (pc := 167) C 0 rfl dX2_hour_167 rfl ?_
  refine g_get (pc := 168) C so_RX2 1 fl_RX2_32 (v := .int (h.1 135 1)) rfl dX2_hour_168 ?_
  refine g_iconst (pc := 171) (v := 2) C dX2_hour_171 kc_2 ?_
  refine g_aload_n (pc := 172) C 0 rfl dX2_hour_172 rfl ?_
  refine g_get (pc := 173) C so_RX2 4 fl_RX2_22 (v := .int (h.1 135 4)) rfl dX2_hour_173 ?_
  refine g_imul (pc := 176) C dX2_hour_176 ?_
  refine g_isub (pc := 177) C dX2_hour_177 ?_
  refine g_aload_n (pc := 178) C 0 rfl dX2_hour_178 rfl ?_
  refine g_get (pc := 179) C so_RX2 3 fl_RX2_19 (v := .int (h.1 135 3)) rfl dX2_hour_179 ?_
  refine g_isub (pc := 182) C dX2_hour_182 ?_
  refine g_iconst (pc := 183) (v := 3) C dX2_hour_183 kc_3 ?_
  refine g_aload_n (pc := 184) C 0 rfl dX2_hour_184 rfl ?_
  refine g_get (pc := 185) C so_RX2 5 fl_RX2_25 (v := .int (h.1 135 5)) rfl dX2_hour_185 ?_
  refine g_imul (pc := 188) C dX2_hour_188 ?_
  refine g_iadd (pc := 189) C dX2_hour_189 ?_
  refine g_aload_n (pc := 190) C 0 rfl dX2_hour_190 rfl ?_
  refine g_get (pc := 191) C so_RX2 6 fl_RX2_28 (v := .int (h.1 135 6)) rfl dX2_hour_191 ?_
  refine g_if_eq (pc := 194) (tgt := 201) C dX2_hour_194 (by decide) (fun hc18 => ?_) (fun hc18 => ?_)
  · refine g_iconst (pc := 201) (v := 2) C dX2_hour_201 kc_2 ?_
    exact j_X2_hour_202 C (2 : Int32) ((((h.1 135 1) - ((2 : Int32) * (h.1 135 4))) - (h.1 135 3)) + ((3 : Int32) * (h.1 135 5))) h
  · refine g_iconst (pc := 197) (v := 0) C dX2_hour_197 kc_0 ?_
    refine g_goto (pc := 198) (tgt := 202) C dX2_hour_198 (by decide) ?_
    exact j_X2_hour_202 C (0 : Int32) ((((h.1 135 1) - ((2 : Int32) * (h.1 135 4))) - (h.1 135 3)) + ((3 : Int32) * (h.1 135 5))) h
def f_X2_hour_65   : Nat → Int32 → TT → Option TT
  | 0, _, _ => none
  | n + 1, x1, h => (if (6 : Int32) ≤ x1 then if inb (5 : Int32) 6 = true then if inb (5 : Int32) 6 = true then if inb (5 : Int32) 6 = true then nm (wr h 136 (5 : Int32).toNatClampNeg ((h.1 136 (5 : Int32).toNatClampNeg) - ((((h.1 136 (5 : Int32).toNatClampNeg) - (h.1 135 2)) * (h.1 135 5)) / (20 : Int32)))) fun h10 => (if (h10.1 135 6) = 0 then if inb (0 : Int32) 6 = true then nm (wr h10 136 (0 : Int32).toNatClampNeg (h10.1 135 2)) fun h13 => if inb (1 : Int32) 6 = true then if inb (1 : Int32) 6 = true then if inb (1 : Int32) 6 = true then nm (wr h13 136 (1 : Int32).toNatClampNeg ((h13.1 136 (1 : Int32).toNatClampNeg) - (((h13.1 136 (1 : Int32).toNatClampNeg) - (h13.1 135 2)) / (2 : Int32)))) fun h17 => f_X2_hour_167 h17 else none else none else none else none else f_X2_hour_167 h10) else none else none else none else if inb x1 6 = true then if inb x1 6 = true then if inb x1 6 = true then nm (wr h 136 x1.toNatClampNeg ((h.1 136 x1.toNatClampNeg) - (((h.1 136 x1.toNatClampNeg) - (h.1 135 2)) / (10 : Int32)))) fun h24 => f_X2_hour_65 n (x1 + (1 : Int32)) h24 else none else none else none)
set_option maxRecDepth 20000 in
theorem j_X2_hour_65 {p : Program} {l : Launch} {e : Env} {R : Room} {s : State} {m : MethodId} {args : Array Value} {below : List Frame} {meth : Method} {c : Code} {w : WK} (C : CX p R s m args meth c w RX2 cX2_hour 2 none 2 43)     : ∀ (n : Nat) (x1 : Int32) (h : TT), GO p l e R s m args below meth c w 2 fV (f_X2_hour_65 n x1 h) 65 [(0, .ref (w.2.1 (135))), (1, .int x1)] [] h := by
  intro n
  induction n with
  | zero =>
    intro x1 h
    exact g_none
  | succ n ih =>
    intro x1 h
    rw [f_X2_hour_65]
    refine g_iload_n (pc := 65) C 1 rfl dX2_hour_65 rfl ?_
    refine g_bipush (pc := 66) (v := 6) C dX2_hour_66 kb_6 ?_
    refine g_icmp_ge (pc := 68) (tgt := 100) C dX2_hour_68 (by decide) (fun hc6 => ?_) (fun hc6 => ?_)
    · refine g_aload_n (pc := 100) C 0 rfl dX2_hour_100 rfl ?_
      refine g_get (pc := 101) C so_RX2 0 fl_RX2_9 (v := .ref (w.2.1 (136))) rfl dX2_hour_101 ?_
      refine g_iconst (pc := 104) (v := 5) C dX2_hour_104 kc_5 ?_
      refine g_dup2 (pc := 105) C dX2_hour_105 rfl rfl ?_
      refine g_iald (pc := 106) C si_136 dX2_hour_106 (fun hb7 => ?_)
      refine g_aload_n (pc := 107) C 0 rfl dX2_hour_107 rfl ?_
      refine g_get (pc := 108) C so_RX2 0 fl_RX2_9 (v := .ref (w.2.1 (136))) rfl dX2_hour_108 ?_
      refine g_iconst (pc := 111) (v := 5) C dX2_hour_111 kc_5 ?_
      refine g_iald (pc := 112) C si_136 dX2_hour_112 (fun hb8 => ?_)
      refine g_aload_n (pc := 113) C 0 rfl dX2_hour_113 rfl ?_
      refine g_get (pc := 114) C so_RX2 2 fl_RX2_15 (v := .int (h.1 135 2)) rfl dX2_hour_114 ?_
      refine g_isub (pc := 117) C dX2_hour_117 ?_
      refine g_aload_n (pc := 118) C 0 rfl dX2_hour_118 rfl ?_
      refine g_get (pc := 119) C so_RX2 5 fl_RX2_25 (v := .int (h.1 135 5)) rfl dX2_hour_119 ?_
      refine g_imul (pc := 122) C dX2_hour_122 ?_
      refine g_bipush (pc := 123) (v := 20) C dX2_hour_123 kb_20 ?_
      refine g_idiv (pc := 125) C dX2_hour_125 (by decide) ?_
      refine g_isub (pc := 126) C dX2_hour_126 ?_
      refine g_iast (pc := 127) C si_136 dX2_hour_127 (fun hb9 => ?_)
      refine g_nm (fun h10 => ?_)
      refine g_aload_n (pc := 128) C 0 rfl dX2_hour_128 rfl ?_
      refine g_get (pc := 129) C so_RX2 6 fl_RX2_28 (v := .int (h10.1 135 6)) rfl dX2_hour_129 ?_
      refine g_if_ne (pc := 132) (tgt := 167) C dX2_hour_132 (by decide) (fun hc11 => ?_) (fun hc11 => ?_)
      · refine g_aload_n (pc := 135) C 0 rfl dX2_hour_135 rfl ?_
        refine g_get (pc := 136) C so_RX2 0 fl_RX2_9 (v := .ref (w.2.1 (136))) rfl dX2_hour_136 ?_
        refine g_iconst (pc := 139) (v := 0) C dX2_hour_139 kc_0 ?_
        refine g_aload_n (pc := 140) C 0 rfl dX2_hour_140 rfl ?_
        refine g_get (pc := 141) C so_RX2 2 fl_RX2_15 (v := .int (h10.1 135 2)) rfl dX2_hour_141 ?_
        refine g_iast (pc := 144) C si_136 dX2_hour_144 (fun hb12 => ?_)
        refine g_nm (fun h13 => ?_)
        refine g_aload_n (pc := 145) C 0 rfl dX2_hour_145 rfl ?_
        refine g_get (pc := 146) C so_RX2 0 fl_RX2_9 (v := .ref (w.2.1 (136))) rfl dX2_hour_146 ?_
        refine g_iconst (pc := 149) (v := 1) C dX2_hour_149 kc_1 ?_
        refine g_dup2 (pc := 150) C dX2_hour_150 rfl rfl ?_
        refine g_iald (pc := 151) C si_136 dX2_hour_151 (fun hb14 => ?_)
        refine g_aload_n (pc := 152) C 0 rfl dX2_hour_152 rfl ?_
        refine g_get (pc := 153) C so_RX2 0 fl_RX2_9 (v := .ref (w.2.1 (136))) rfl dX2_hour_153 ?_
        refine g_iconst (pc := 156) (v := 1) C dX2_hour_156 kc_1 ?_
        refine g_iald (pc := 157) C si_136 dX2_hour_157 (fun hb15 => ?_)
        refine g_aload_n (pc := 158) C 0 rfl dX2_hour_158 rfl ?_
        refine g_get (pc := 159) C so_RX2 2 fl_RX2_15 (v := .int (h13.1 135 2)) rfl dX2_hour_159 ?_
        refine g_isub (pc := 162) C dX2_hour_162 ?_
        refine g_iconst (pc := 163) (v := 2) C dX2_hour_163 kc_2 ?_
        refine g_idiv (pc := 164) C dX2_hour_164 (by decide) ?_
        refine g_isub (pc := 165) C dX2_hour_165 ?_
        refine g_iast (pc := 166) C si_136 dX2_hour_166 (fun hb16 => ?_)
        refine g_nm (fun h17 => ?_)
        refine g_lv (lv' := [(0, .ref (w.2.1 (135)))]) [0] rfl ?_
        exact j_X2_hour_167 C h17
      · refine g_lv (lv' := [(0, .ref (w.2.1 (135)))]) [0] rfl ?_
        exact j_X2_hour_167 C h10
    · refine g_aload_n (pc := 71) C 0 rfl dX2_hour_71 rfl ?_
      refine g_get (pc := 72) C so_RX2 0 fl_RX2_9 (v := .ref (w.2.1 (136))) rfl dX2_hour_72 ?_
      refine g_iload_n (pc := 75) C 1 rfl dX2_hour_75 rfl ?_
      refine g_dup2 (pc := 76) C dX2_hour_76 rfl rfl ?_
      refine g_iald (pc := 77) C si_136 dX2_hour_77 (fun hb21 => ?_)
      refine g_aload_n (pc := 78) C 0 rfl dX2_hour_78 rfl ?_
      refine g_get (pc := 79) C so_RX2 0 fl_RX2_9 (v := .ref (w.2.1 (136))) rfl dX2_hour_79 ?_
      refine g_iload_n (pc := 82) C 1 rfl dX2_hour_82 rfl ?_
      refine g_iald (pc := 83) C si_136 dX2_hour_83 (fun hb22 => ?_)
      refine g_aload_n (pc := 84) C 0 rfl dX2_hour_84 rfl ?_
      refine g_get (pc := 85) C so_RX2 2 fl_RX2_15 (v := .int (h.1 135 2)) rfl dX2_hour_85 ?_
      refine g_isub (pc := 88) C dX2_hour_88 ?_
      refine g_bipush (pc := 89) (v := 10) C dX2_hour_89 kb_10 ?_
      refine g_idiv (pc := 91) C dX2_hour_91 (by decide) ?_
      refine g_isub (pc := 92) C dX2_hour_92 ?_
      refine g_iast (pc := 93) C si_136 dX2_hour_93 (fun hb23 => ?_)
      refine g_nm (fun h24 => ?_)
      refine g_iinc (pc := 94) C 1 rfl dX2_hour_94 (ki_1 _) (by decide) (lv' := [(1, .int (x1 + (1 : Int32))), (0, .ref (w.2.1 (135)))]) rfl ?_
      refine g_goto (pc := 97) (tgt := 65) C dX2_hour_97 (by decide) ?_
      refine g_lv (lv' := [(0, .ref (w.2.1 (135))), (1, .int (x1 + (1 : Int32)))]) [1, 0] rfl ?_
      exact ih (x1 + (1 : Int32)) h24
def f_X2_hour_47   : Nat → Int32 → TT → Option TT
  | 0, _, _ => none
  | n + 1, x1, h => (if (5 : Int32) ≤ x1 then f_X2_hour_65 KF (0 : Int32) h else (f_X2_riseFrom h x1).bind fun h25 => f_X2_hour_47 n (x1 + (1 : Int32)) h25)
set_option maxRecDepth 20000 in
theorem j_X2_hour_47 {p : Program} {l : Launch} {e : Env} {R : Room} {s : State} {m : MethodId} {args : Array Value} {below : List Frame} {meth : Method} {c : Code} {w : WK} (C : CX p R s m args meth c w RX2 cX2_hour 2 none 2 43)     : ∀ (n : Nat) (x1 : Int32) (h : TT), GO p l e R s m args below meth c w 2 fV (f_X2_hour_47 n x1 h) 47 [(0, .ref (w.2.1 (135))), (1, .int x1)] [] h := by
  intro n
  induction n with
  | zero =>
    intro x1 h
    exact g_none
  | succ n ih =>
    intro x1 h
    rw [f_X2_hour_47]
    refine g_iload_n (pc := 47) C 1 rfl dX2_hour_47 rfl ?_
    refine g_iconst (pc := 48) (v := 5) C dX2_hour_48 kc_5 ?_
    refine g_icmp_ge (pc := 49) (tgt := 63) C dX2_hour_49 (by decide) (fun hc5 => ?_) (fun hc5 => ?_)
    · refine g_iconst (pc := 63) (v := 0) C dX2_hour_63 kc_0 ?_
      refine g_istore_n (pc := 64) C dX2_hour_64 rfl (by decide) (lv' := [(1, .int (0 : Int32)), (0, .ref (w.2.1 (135)))]) rfl ?_
      refine g_lv (lv' := [(0, .ref (w.2.1 (135))), (1, .int (0 : Int32))]) [1, 0] rfl ?_
      exact j_X2_hour_65 C KF (0 : Int32) h
    · refine g_aload_n (pc := 52) C 0 rfl dX2_hour_52 rfl ?_
      refine g_iload_n (pc := 53) C 1 rfl dX2_hour_53 rfl ?_
      refine g_callV (pc := 54) (rest := []) (g_runV C mv_RX2_41 (fun x1 hx1 => m_X2_riseFrom hx1) so_RX2 rfl (by decide) rfl rfl (Nat.le_of_ble_eq_true rfl) dX2_hour_54) (fun h25 => ?_)
      refine g_iinc (pc := 57) C 1 rfl dX2_hour_57 (ki_1 _) (by decide) (lv' := [(1, .int (x1 + (1 : Int32))), (0, .ref (w.2.1 (135)))]) rfl ?_
      refine g_goto (pc := 60) (tgt := 47) C dX2_hour_60 (by decide) ?_
      refine g_lv (lv' := [(0, .ref (w.2.1 (135))), (1, .int (x1 + (1 : Int32)))]) [1, 0] rfl ?_
      exact ih (x1 + (1 : Int32)) h25
def f_X2_hour_18   : Nat → Int32 → TT → Option TT
  | 0, _, _ => none
  | n + 1, x1, h => (if (3 : Int32) < x1 then f_X2_hour_47 KF (0 : Int32) h else if inb x1 6 = true then if inb x1 6 = true then nm (wr h 136 x1.toNatClampNeg ((h.1 136 x1.toNatClampNeg) + ((10 : Int32) * (h.1 135 4)))) fun h28 => f_X2_hour_18 n (x1 + (1 : Int32)) h28 else none else none)
set_option maxRecDepth 20000 in
theorem j_X2_hour_18 {p : Program} {l : Launch} {e : Env} {R : Room} {s : State} {m : MethodId} {args : Array Value} {below : List Frame} {meth : Method} {c : Code} {w : WK} (C : CX p R s m args meth c w RX2 cX2_hour 2 none 2 43)     : ∀ (n : Nat) (x1 : Int32) (h : TT), GO p l e R s m args below meth c w 2 fV (f_X2_hour_18 n x1 h) 18 [(0, .ref (w.2.1 (135))), (1, .int x1)] [] h := by
  intro n
  induction n with
  | zero =>
    intro x1 h
    exact g_none
  | succ n ih =>
    intro x1 h
    rw [f_X2_hour_18]
    refine g_iload_n (pc := 18) C 1 rfl dX2_hour_18 rfl ?_
    refine g_iconst (pc := 19) (v := 3) C dX2_hour_19 kc_3 ?_
    refine g_icmp_gt (pc := 20) (tgt := 45) C dX2_hour_20 (by decide) (fun hc4 => ?_) (fun hc4 => ?_)
    · refine g_iconst (pc := 45) (v := 0) C dX2_hour_45 kc_0 ?_
      refine g_istore_n (pc := 46) C dX2_hour_46 rfl (by decide) (lv' := [(1, .int (0 : Int32)), (0, .ref (w.2.1 (135)))]) rfl ?_
      refine g_lv (lv' := [(0, .ref (w.2.1 (135))), (1, .int (0 : Int32))]) [1, 0] rfl ?_
      exact j_X2_hour_47 C KF (0 : Int32) h
    · refine g_aload_n (pc := 23) C 0 rfl dX2_hour_23 rfl ?_
      refine g_get (pc := 24) C so_RX2 0 fl_RX2_9 (v := .ref (w.2.1 (136))) rfl dX2_hour_24 ?_
      refine g_iload_n (pc := 27) C 1 rfl dX2_hour_27 rfl ?_
      refine g_dup2 (pc := 28) C dX2_hour_28 rfl rfl ?_
      refine g_iald (pc := 29) C si_136 dX2_hour_29 (fun hb26 => ?_)
      refine g_bipush (pc := 30) (v := 10) C dX2_hour_30 kb_10 ?_
      refine g_aload_n (pc := 32) C 0 rfl dX2_hour_32 rfl ?_
      refine g_get (pc := 33) C so_RX2 4 fl_RX2_22 (v := .int (h.1 135 4)) rfl dX2_hour_33 ?_
      refine g_imul (pc := 36) C dX2_hour_36 ?_
      refine g_iadd (pc := 37) C dX2_hour_37 ?_
      refine g_iast (pc := 38) C si_136 dX2_hour_38 (fun hb27 => ?_)
      refine g_nm (fun h28 => ?_)
      refine g_iinc (pc := 39) C 1 rfl dX2_hour_39 (ki_1 _) (by decide) (lv' := [(1, .int (x1 + (1 : Int32))), (0, .ref (w.2.1 (135)))]) rfl ?_
      refine g_goto (pc := 42) (tgt := 18) C dX2_hour_42 (by decide) ?_
      refine g_lv (lv' := [(0, .ref (w.2.1 (135))), (1, .int (x1 + (1 : Int32)))]) [1, 0] rfl ?_
      exact ih (x1 + (1 : Int32)) h28
def f_X2_hour (h : TT)  : Option TT := if inb (5 : Int32) 6 = true then if inb (5 : Int32) 6 = true then nm (wr h 136 (5 : Int32).toNatClampNeg ((h.1 136 (5 : Int32).toNatClampNeg) + ((20 : Int32) * (h.1 135 3)))) fun h3 => f_X2_hour_18 KF (1 : Int32) h3 else none else none
set_option maxRecDepth 20000 in
theorem m_X2_hour {l : Launch} {w : WK} {h : TT}  {x : TT} (hx : f_X2_hour h  = some x)  : Met l yX2_hour (Cond.code yX2_hour cX2_hour 2 none :: wsG) { frames := 2, cells := 0, slots := 0, locals := 43 } (PG w [.ref (w.2.1 (135))] h) (QG w (fV x)) 0 0 (AA w) := by
  refine m_entry (own := RX2) (f := fV) hx (by decide) rfl (Nat.le_of_ble_eq_true rfl) (fun p e s m args below meth c C => ?_)
  show GO p l e _ s m args below meth c w 2 fV (f_X2_hour h ) 0 [(0, .ref (w.2.1 (135)))] [] h
  unfold f_X2_hour
  refine g_aload_n (pc := 0) C 0 rfl dX2_hour_0 rfl ?_
  refine g_get (pc := 1) C so_RX2 0 fl_RX2_9 (v := .ref (w.2.1 (136))) rfl dX2_hour_1 ?_
  refine g_iconst (pc := 4) (v := 5) C dX2_hour_4 kc_5 ?_
  refine g_dup2 (pc := 5) C dX2_hour_5 rfl rfl ?_
  refine g_iald (pc := 6) C si_136 dX2_hour_6 (fun hb1 => ?_)
  refine g_bipush (pc := 7) (v := 20) C dX2_hour_7 kb_20 ?_
  refine g_aload_n (pc := 9) C 0 rfl dX2_hour_9 rfl ?_
  refine g_get (pc := 10) C so_RX2 3 fl_RX2_19 (v := .int (h.1 135 3)) rfl dX2_hour_10 ?_
  refine g_imul (pc := 13) C dX2_hour_13 ?_
  refine g_iadd (pc := 14) C dX2_hour_14 ?_
  refine g_iast (pc := 15) C si_136 dX2_hour_15 (fun hb2 => ?_)
  refine g_nm (fun h3 => ?_)
  refine g_iconst (pc := 16) (v := 1) C dX2_hour_16 kc_1 ?_
  refine g_istore_n (pc := 17) C dX2_hour_17 rfl (by decide) (lv' := [(1, .int (1 : Int32)), (0, .ref (w.2.1 (135)))]) rfl ?_
  refine g_lv (lv' := [(0, .ref (w.2.1 (135))), (1, .int (1 : Int32))]) [1, 0] rfl ?_
  exact j_X2_hour_18 C KF (1 : Int32) h3
/-- SnowHouse.air(IIIIII)I -/
def f_X7_air_113   : Nat → Int32 → Int32 → TT → Option (Int32 × TT)
  | 0, _, _, _ => none
  | n + 1, x6, x7, h => (if x6 ≤ x7 then if inb (5 : Int32) 6 = true then nm (wr h 0 13 (h.1 136 (5 : Int32).toNatClampNeg)) fun h22 => some (h22.1 135 1, h22) else none else (f_X2_hour h).bind fun h23 => f_X7_air_113 n x6 (x7 + (1 : Int32)) h23)
set_option maxRecDepth 20000 in
theorem j_X7_air_113 {p : Program} {l : Launch} {e : Env} {R : Room} {s : State} {m : MethodId} {args : Array Value} {below : List Frame} {meth : Method} {c : Code} {w : WK} (C : CX p R s m args meth c w RX7 cX7_air 8 (some .int) 3 64)     : ∀ (n : Nat) (x6 : Int32) (x7 : Int32) (h : TT), GO p l e R s m args below meth c w 8 fIT (f_X7_air_113 n x6 x7 h) 113 [(0, .ref (w.2.1 (0))), (6, .int x6), (7, .int x7)] [] h := by
  intro n
  induction n with
  | zero =>
    intro x6 x7 h
    exact g_none
  | succ n ih =>
    intro x6 x7 h
    rw [f_X7_air_113]
    refine g_iload (pc := 113) C 2 rfl dX7_air_113 ?_
    refine g_iload (pc := 115) C 1 rfl dX7_air_115 ?_
    refine g_icmp_ge (pc := 117) (tgt := 133) C dX7_air_117 (by decide) (fun hc20 => ?_) (fun hc20 => ?_)
    · refine g_aload_n (pc := 133) C 0 rfl dX7_air_133 rfl ?_
      refine g_aload_n (pc := 134) C 0 rfl dX7_air_134 rfl ?_
      refine g_get (pc := 135) C so_RX7 10 fl_RX7_70 (v := .ref (w.2.1 (135))) rfl dX7_air_135 ?_
      refine g_get (pc := 138) C so_RX2 0 fl_RX7_305 (v := .ref (w.2.1 (136))) rfl dX7_air_138 ?_
      refine g_iconst (pc := 141) (v := 5) C dX7_air_141 kc_5 ?_
      refine g_iald (pc := 142) C si_136 dX7_air_142 (fun hb21 => ?_)
      refine g_putI (pc := 143) C so_RX7 13 fp_RX7_88 (se_RX7_13 _) rfl rfl (sl_RX7_13) dX7_air_143 ?_
      refine g_nm (fun h22 => ?_)
      refine g_aload_n (pc := 146) C 0 rfl dX7_air_146 rfl ?_
      refine g_get (pc := 147) C so_RX7 10 fl_RX7_70 (v := .ref (w.2.1 (135))) rfl dX7_air_147 ?_
      refine g_get (pc := 150) C so_RX2 1 fl_RX7_308 (v := .int (h22.1 135 1)) rfl dX7_air_150 ?_
      exact g_iretT C dX7_air_153
    · refine g_aload_n (pc := 120) C 0 rfl dX7_air_120 rfl ?_
      refine g_get (pc := 121) C so_RX7 10 fl_RX7_70 (v := .ref (w.2.1 (135))) rfl dX7_air_121 ?_
      refine g_callV (pc := 124) (rest := []) (g_runV C mv_RX7_302 (fun x1 hx1 => m_X2_hour hx1) so_RX2 rfl (by decide) rfl rfl (Nat.le_of_ble_eq_true rfl) dX7_air_124) (fun h23 => ?_)
      refine g_iinc (pc := 127) C 2 rfl dX7_air_127 (ki_1 _) (by decide) (lv' := [(7, .int (x7 + (1 : Int32))), (0, .ref (w.2.1 (0))), (6, .int x6)]) rfl ?_
      refine g_goto (pc := 130) (tgt := 113) C dX7_air_130 (by decide) ?_
      refine g_lv (lv' := [(0, .ref (w.2.1 (0))), (6, .int x6), (7, .int (x7 + (1 : Int32)))]) [1, 2, 0] rfl ?_
      exact ih x6 (x7 + (1 : Int32)) h23
def f_X7_air_107   (x6 : Int32) (xs0 : Int32) (xs1 : Int32) (xs2 : Int32) (xs3 : Int32) (xs4 : Int32) (h : TT) : Option (Int32 × TT) := (f_X2_enter h xs4 xs3 xs2 xs1 xs0).bind fun h19 => f_X7_air_113 KF x6 (0 : Int32) h19
set_option maxRecDepth 20000 in
theorem j_X7_air_107 {p : Program} {l : Launch} {e : Env} {R : Room} {s : State} {m : MethodId} {args : Array Value} {below : List Frame} {meth : Method} {c : Code} {w : WK} (C : CX p R s m args meth c w RX7 cX7_air 8 (some .int) 3 64)     (x6 : Int32) (xs0 : Int32) (xs1 : Int32) (xs2 : Int32) (xs3 : Int32) (xs4 : Int32)  (h : TT) : GO p l e R s m args below meth c w 8 fIT (f_X7_air_107 x6 xs0 xs1 xs2 xs3 xs4 h) 107 [(0, .ref (w.2.1 (0))), (6, .int x6)] [.int xs0, .int xs1, .int xs2, .int xs3, .int xs4, .ref (w.2.1 (135))] h := by
  unfold f_X7_air_107
  refine g_callV (pc := 107) (rest := []) (g_runV C mv_RX7_298 (fun x1 hx1 => m_X2_enter hx1) so_RX2 rfl (by decide) rfl rfl (Nat.le_of_ble_eq_true rfl) dX7_air_107) (fun h19 => ?_)
  refine g_iconst (pc := 110) (v := 0) C dX7_air_110 kc_0 ?_
  refine g_istore (pc := 111) C dX7_air_111 (by decide) (lv' := [(7, .int (0 : Int32)), (0, .ref (w.2.1 (0))), (6, .int x6)]) rfl ?_
  refine g_lv (lv' := [(0, .ref (w.2.1 (0))), (6, .int x6), (7, .int (0 : Int32))]) [1, 2, 0] rfl ?_
  exact j_X7_air_113 C KF x6 (0 : Int32) h19
def f_X7_air (h : TT) (x1 : Int32) (x2 : Int32) (x3 : Int32) (x4 : Int32) (x5 : Int32) (x6 : Int32) : Option (Int32 × TT) := (f_X7_isBelow h x1 (4 : Int32)).bind fun r1 => (if r1 = 0 then some ((-1 : Int32), h) else (f_X7_isUpTo h x2 (9 : Int32)).bind fun r3 => (if r3 = 0 then some ((-1 : Int32), h) else (f_X7_isUpTo h x3 (9 : Int32)).bind fun r5 => (if r5 = 0 then some ((-1 : Int32), h) else (f_X7_isUpTo h x4 (9 : Int32)).bind fun r7 => (if r7 = 0 then some ((-1 : Int32), h) else (f_X7_isUpTo h x5 (1 : Int32)).bind fun r9 => (if r9 = 0 then some ((-1 : Int32), h) else (f_X7_isUpTo h x6 (48 : Int32)).bind fun r11 => (if r11 = 0 then some ((-1 : Int32), h) else if inb x1 4 = true then (if (h.1 (16 + 2 * x1.toNatClampNeg) 0) = 0 then (f_X7_found h (1 : Int32)).bind fun q15 => some (q15.1, q15.2) else if inb x1 4 = true then if inb (2 : Int32) 4 = true then (if x5 = (1 : Int32) then f_X7_air_107 x6 (1 : Int32) x4 x3 x2 (h.1 (16 + 2 * x1.toNatClampNeg + 1) (2 : Int32).toNatClampNeg) h else f_X7_air_107 x6 (0 : Int32) x4 x3 x2 (h.1 (16 + 2 * x1.toNatClampNeg + 1) (2 : Int32).toNatClampNeg) h) else none else none) else none))))))
set_option maxRecDepth 20000 in
theorem m_X7_air {l : Launch} {w : WK} {h : TT} {x1 : Int32} {x2 : Int32} {x3 : Int32} {x4 : Int32} {x5 : Int32} {x6 : Int32} {x : (Int32 × TT)} (hx : f_X7_air h x1 x2 x3 x4 x5 x6 = some x)  : Met l yX7_air (Cond.code yX7_air cX7_air 8 (some .int) :: wsG) { frames := 3, cells := 0, slots := 0, locals := 64 } (PG w [.ref (w.2.1 (0)), .int x1, .int x2, .int x3, .int x4, .int x5, .int x6] h) (QG w (fIT x)) 0 0 (AA w) := by
  refine m_entry (own := RX7) (f := fIT) hx (by decide) rfl (Nat.le_of_ble_eq_true rfl) (fun p e s m args below meth c C => ?_)
  show GO p l e _ s m args below meth c w 8 fIT (f_X7_air h x1 x2 x3 x4 x5 x6) 0 [(0, .ref (w.2.1 (0))), (1, .int x1), (2, .int x2), (3, .int x3), (4, .int x4), (5, .int x5), (6, .int x6)] [] h
  unfold f_X7_air
  refine g_iload_n (pc := 0) C 1 rfl dX7_air_0 rfl ?_
  refine g_iconst (pc := 1) (v := 4) C dX7_air_1 kc_4 ?_
  refine g_callI (pc := 2) (rest := []) (g_runS C ms_RX7_105 (fun x1 hx1 => m_X7_isBelow hx1) (by decide) rfl rfl (Nat.le_of_ble_eq_true rfl) dX7_air_2) (fun r1 => ?_)
  refine g_if_eq (pc := 5) (tgt := 26) C dX7_air_5 (by decide) (fun hc2 => ?_) (fun hc2 => ?_)
  · refine g_iconst (pc := 26) (v := -1) C dX7_air_26 kc_m1 ?_
    exact g_iretT C dX7_air_27
  · refine g_iload_n (pc := 8) C 2 rfl dX7_air_8 rfl ?_
    refine g_bipush (pc := 9) (v := 9) C dX7_air_9 kb_9 ?_
    refine g_callI (pc := 11) (rest := []) (g_runS C ms_RX7_186 (fun x1 hx1 => m_X7_isUpTo hx1) (by decide) rfl rfl (Nat.le_of_ble_eq_true rfl) dX7_air_11) (fun r3 => ?_)
    refine g_if_eq (pc := 14) (tgt := 26) C dX7_air_14 (by decide) (fun hc4 => ?_) (fun hc4 => ?_)
    · refine g_iconst (pc := 26) (v := -1) C dX7_air_26 kc_m1 ?_
      exact g_iretT C dX7_air_27
    · refine g_iload_n (pc := 17) C 3 rfl dX7_air_17 rfl ?_
      refine g_bipush (pc := 18) (v := 9) C dX7_air_18 kb_9 ?_
      refine g_callI (pc := 20) (rest := []) (g_runS C ms_RX7_186 (fun x1 hx1 => m_X7_isUpTo hx1) (by decide) rfl rfl (Nat.le_of_ble_eq_true rfl) dX7_air_20) (fun r5 => ?_)
      refine g_if_ne (pc := 23) (tgt := 28) C dX7_air_23 (by decide) (fun hc6 => ?_) (fun hc6 => ?_)
      · refine g_iconst (pc := 26) (v := -1) C dX7_air_26 kc_m1 ?_
        exact g_iretT C dX7_air_27
      · refine g_iload (pc := 28) C 4 rfl dX7_air_28 ?_
        refine g_bipush (pc := 30) (v := 9) C dX7_air_30 kb_9 ?_
        refine g_callI (pc := 32) (rest := []) (g_runS C ms_RX7_186 (fun x1 hx1 => m_X7_isUpTo hx1) (by decide) rfl rfl (Nat.le_of_ble_eq_true rfl) dX7_air_32) (fun r7 => ?_)
        refine g_if_eq (pc := 35) (tgt := 57) C dX7_air_35 (by decide) (fun hc8 => ?_) (fun hc8 => ?_)
        · refine g_iconst (pc := 57) (v := -1) C dX7_air_57 kc_m1 ?_
          exact g_iretT C dX7_air_58
        · refine g_iload (pc := 38) C 5 rfl dX7_air_38 ?_
          refine g_iconst (pc := 40) (v := 1) C dX7_air_40 kc_1 ?_
          refine g_callI (pc := 41) (rest := []) (g_runS C ms_RX7_186 (fun x1 hx1 => m_X7_isUpTo hx1) (by decide) rfl rfl (Nat.le_of_ble_eq_true rfl) dX7_air_41) (fun r9 => ?_)
          refine g_if_eq (pc := 44) (tgt := 57) C dX7_air_44 (by decide) (fun hc10 => ?_) (fun hc10 => ?_)
          · refine g_iconst (pc := 57) (v := -1) C dX7_air_57 kc_m1 ?_
            exact g_iretT C dX7_air_58
          · refine g_iload (pc := 47) C 6 rfl dX7_air_47 ?_
            refine g_bipush (pc := 49) (v := 48) C dX7_air_49 kb_48 ?_
            refine g_callI (pc := 51) (rest := []) (g_runS C ms_RX7_186 (fun x1 hx1 => m_X7_isUpTo hx1) (by decide) rfl rfl (Nat.le_of_ble_eq_true rfl) dX7_air_51) (fun r11 => ?_)
            refine g_if_ne (pc := 54) (tgt := 59) C dX7_air_54 (by decide) (fun hc12 => ?_) (fun hc12 => ?_)
            · refine g_iconst (pc := 57) (v := -1) C dX7_air_57 kc_m1 ?_
              exact g_iretT C dX7_air_58
            · refine g_aload_n (pc := 59) C 0 rfl dX7_air_59 rfl ?_
              refine g_get (pc := 60) C so_RX7 4 fl_RX7_34 (v := .ref (w.2.1 (15))) rfl dX7_air_60 ?_
              refine g_iload_n (pc := 63) C 1 rfl dX7_air_63 rfl ?_
              refine g_aald (pc := 64) (cA := 0) C sr_snows rfl rfl dX7_air_64 (fun hb13 => ?_)
              refine g_get (pc := 65) C (so_RX5 (isSn hb13)) 0 fl_RX7_157 (v := .int (h.1 (16 + 2 * x1.toNatClampNeg) 0)) rfl dX7_air_65 ?_
              refine g_if_ne (pc := 68) (tgt := 77) C dX7_air_68 (by decide) (fun hc14 => ?_) (fun hc14 => ?_)
              · refine g_aload_n (pc := 71) C 0 rfl dX7_air_71 rfl ?_
                refine g_iconst (pc := 72) (v := 1) C dX7_air_72 kc_1 ?_
                refine g_callIT (pc := 73) (rest := []) (g_runV C mv_RX7_109 (fun x1 hx1 => m_X7_found hx1) so_RX7 rfl (by decide) rfl rfl (Nat.le_of_ble_eq_true rfl) dX7_air_73) (fun q15 => ?_)
                exact g_iretT C dX7_air_76
              · refine g_aload_n (pc := 77) C 0 rfl dX7_air_77 rfl ?_
                refine g_get (pc := 78) C so_RX7 10 fl_RX7_70 (v := .ref (w.2.1 (135))) rfl dX7_air_78 ?_
                refine g_aload_n (pc := 81) C 0 rfl dX7_air_81 rfl ?_
                refine g_get (pc := 82) C so_RX7 4 fl_RX7_34 (v := .ref (w.2.1 (15))) rfl dX7_air_82 ?_
                refine g_iload_n (pc := 85) C 1 rfl dX7_air_85 rfl ?_
                refine g_aald (pc := 86) (cA := 0) C sr_snows rfl rfl dX7_air_86 (fun hb16 => ?_)
                refine g_get (pc := 87) C (so_RX5 (isSn hb16)) 1 fl_RX7_161 (v := .ref (w.2.1 (16 + 2 * x1.toNatClampNeg + 1))) rfl dX7_air_87 ?_
                refine g_iconst (pc := 90) (v := 2) C dX7_air_90 kc_2 ?_
                refine g_iald (pc := 91) C (siS (isSn hb16)) dX7_air_91 (fun hb17 => ?_)
                refine g_iload_n (pc := 92) C 2 rfl dX7_air_92 rfl ?_
                refine g_iload_n (pc := 93) C 3 rfl dX7_air_93 rfl ?_
                refine g_iload (pc := 94) C 4 rfl dX7_air_94 ?_
                refine g_iload (pc := 96) C 5 rfl dX7_air_96 ?_
                refine g_iconst (pc := 98) (v := 1) C dX7_air_98 kc_1 ?_
                refine g_icmp_ne (pc := 99) (tgt := 106) C dX7_air_99 (by decide) (fun hc18 => ?_) (fun hc18 => ?_)
                · refine g_iconst (pc := 102) (v := 1) C dX7_air_102 kc_1 ?_
                  refine g_goto (pc := 103) (tgt := 107) C dX7_air_103 (by decide) ?_
                  refine g_lv (lv' := [(0, .ref (w.2.1 (0))), (6, .int x6)]) [0, 6] rfl ?_
                  exact j_X7_air_107 C x6 (1 : Int32) x4 x3 x2 (h.1 (16 + 2 * x1.toNatClampNeg + 1) (2 : Int32).toNatClampNeg) h
                · refine g_iconst (pc := 106) (v := 0) C dX7_air_106 kc_0 ?_
                  refine g_lv (lv' := [(0, .ref (w.2.1 (0))), (6, .int x6)]) [0, 6] rfl ?_
                  exact j_X7_air_107 C x6 (0 : Int32) x4 x3 x2 (h.1 (16 + 2 * x1.toNatClampNeg + 1) (2 : Int32).toNatClampNeg) h
/-- SnowHouse.layer(IIIIII)I -/
def f_X7_layer_104   : Nat → Int32 → Int32 → Int32 → TT → Option (Int32 × TT)
  | 0, _, _, _, _ => none
  | n + 1, x5, x6, x7, h => (if x5 ≤ x7 then if inb x6 6 = true then (f_X7_tell h (h.1 136 x6.toNatClampNeg)).bind fun q21 => some (q21.1, q21.2) else none else (f_X2_hour h).bind fun h22 => f_X7_layer_104 n x5 x6 (x7 + (1 : Int32)) h22)
set_option maxRecDepth 20000 in
theorem j_X7_layer_104 {p : Program} {l : Launch} {e : Env} {R : Room} {s : State} {m : MethodId} {args : Array Value} {below : List Frame} {meth : Method} {c : Code} {w : WK} (C : CX p R s m args meth c w RX7 cX7_layer 8 (some .int) 3 64)     : ∀ (n : Nat) (x5 : Int32) (x6 : Int32) (x7 : Int32) (h : TT), GO p l e R s m args below meth c w 8 fIT (f_X7_layer_104 n x5 x6 x7 h) 104 [(0, .ref (w.2.1 (0))), (5, .int x5), (6, .int x6), (7, .int x7)] [] h := by
  intro n
  induction n with
  | zero =>
    intro x5 x6 x7 h
    exact g_none
  | succ n ih =>
    intro x5 x6 x7 h
    rw [f_X7_layer_104]
    refine g_iload (pc := 104) C 3 rfl dX7_layer_104 ?_
    refine g_iload (pc := 106) C 1 rfl dX7_layer_106 ?_
    refine g_icmp_ge (pc := 108) (tgt := 124) C dX7_layer_108 (by decide) (fun hc19 => ?_) (fun hc19 => ?_)
    · refine g_aload_n (pc := 124) C 0 rfl dX7_layer_124 rfl ?_
      refine g_aload_n (pc := 125) C 0 rfl dX7_layer_125 rfl ?_
      refine g_get (pc := 126) C so_RX7 10 fl_RX7_70 (v := .ref (w.2.1 (135))) rfl dX7_layer_126 ?_
      refine g_get (pc := 129) C so_RX2 0 fl_RX7_305 (v := .ref (w.2.1 (136))) rfl dX7_layer_129 ?_
      refine g_iload (pc := 132) C 2 rfl dX7_layer_132 ?_
      refine g_iald (pc := 134) C si_136 dX7_layer_134 (fun hb20 => ?_)
      refine g_callIT (pc := 135) (rest := []) (g_runV C mv_RX7_113 (fun x1 hx1 => m_X7_tell hx1) so_RX7 rfl (by decide) rfl rfl (Nat.le_of_ble_eq_true rfl) dX7_layer_135) (fun q21 => ?_)
      exact g_iretT C dX7_layer_138
    · refine g_aload_n (pc := 111) C 0 rfl dX7_layer_111 rfl ?_
      refine g_get (pc := 112) C so_RX7 10 fl_RX7_70 (v := .ref (w.2.1 (135))) rfl dX7_layer_112 ?_
      refine g_callV (pc := 115) (rest := []) (g_runV C mv_RX7_302 (fun x1 hx1 => m_X2_hour hx1) so_RX2 rfl (by decide) rfl rfl (Nat.le_of_ble_eq_true rfl) dX7_layer_115) (fun h22 => ?_)
      refine g_iinc (pc := 118) C 3 rfl dX7_layer_118 (ki_1 _) (by decide) (lv' := [(7, .int (x7 + (1 : Int32))), (0, .ref (w.2.1 (0))), (5, .int x5), (6, .int x6)]) rfl ?_
      refine g_goto (pc := 121) (tgt := 104) C dX7_layer_121 (by decide) ?_
      refine g_lv (lv' := [(0, .ref (w.2.1 (0))), (5, .int x5), (6, .int x6), (7, .int (x7 + (1 : Int32)))]) [1, 2, 3, 0] rfl ?_
      exact ih x5 x6 (x7 + (1 : Int32)) h22
def f_X7_layer (h : TT) (x1 : Int32) (x2 : Int32) (x3 : Int32) (x4 : Int32) (x5 : Int32) (x6 : Int32) : Option (Int32 × TT) := (f_X7_isBelow h x1 (4 : Int32)).bind fun r1 => (if r1 = 0 then some ((-1 : Int32), h) else (f_X7_isUpTo h x2 (9 : Int32)).bind fun r3 => (if r3 = 0 then some ((-1 : Int32), h) else (f_X7_isUpTo h x3 (9 : Int32)).bind fun r5 => (if r5 = 0 then some ((-1 : Int32), h) else (f_X7_isUpTo h x4 (9 : Int32)).bind fun r7 => (if r7 = 0 then some ((-1 : Int32), h) else (f_X7_isUpTo h x5 (48 : Int32)).bind fun r9 => (if r9 = 0 then some ((-1 : Int32), h) else (f_X7_isBelow h x6 (6 : Int32)).bind fun r11 => (if r11 = 0 then some ((-1 : Int32), h) else if inb x1 4 = true then (if (h.1 (16 + 2 * x1.toNatClampNeg) 0) = 0 then (f_X7_found h (1 : Int32)).bind fun q15 => some (q15.1, q15.2) else if inb x1 4 = true then if inb (2 : Int32) 4 = true then (f_X2_enter h (h.1 (16 + 2 * x1.toNatClampNeg + 1) (2 : Int32).toNatClampNeg) x2 x3 x4 (1 : Int32)).bind fun h18 => f_X7_layer_104 KF x5 x6 (0 : Int32) h18 else none else none) else none))))))
set_option maxRecDepth 20000 in
theorem m_X7_layer {l : Launch} {w : WK} {h : TT} {x1 : Int32} {x2 : Int32} {x3 : Int32} {x4 : Int32} {x5 : Int32} {x6 : Int32} {x : (Int32 × TT)} (hx : f_X7_layer h x1 x2 x3 x4 x5 x6 = some x)  : Met l yX7_layer (Cond.code yX7_layer cX7_layer 8 (some .int) :: wsG) { frames := 3, cells := 0, slots := 0, locals := 64 } (PG w [.ref (w.2.1 (0)), .int x1, .int x2, .int x3, .int x4, .int x5, .int x6] h) (QG w (fIT x)) 0 0 (AA w) := by
  refine m_entry (own := RX7) (f := fIT) hx (by decide) rfl (Nat.le_of_ble_eq_true rfl) (fun p e s m args below meth c C => ?_)
  show GO p l e _ s m args below meth c w 8 fIT (f_X7_layer h x1 x2 x3 x4 x5 x6) 0 [(0, .ref (w.2.1 (0))), (1, .int x1), (2, .int x2), (3, .int x3), (4, .int x4), (5, .int x5), (6, .int x6)] [] h
  unfold f_X7_layer
  refine g_iload_n (pc := 0) C 1 rfl dX7_layer_0 rfl ?_
  refine g_iconst (pc := 1) (v := 4) C dX7_layer_1 kc_4 ?_
  refine g_callI (pc := 2) (rest := []) (g_runS C ms_RX7_105 (fun x1 hx1 => m_X7_isBelow hx1) (by decide) rfl rfl (Nat.le_of_ble_eq_true rfl) dX7_layer_2) (fun r1 => ?_)
  refine g_if_eq (pc := 5) (tgt := 26) C dX7_layer_5 (by decide) (fun hc2 => ?_) (fun hc2 => ?_)
  · refine g_iconst (pc := 26) (v := -1) C dX7_layer_26 kc_m1 ?_
    exact g_iretT C dX7_layer_27
  · refine g_iload_n (pc := 8) C 2 rfl dX7_layer_8 rfl ?_
    refine g_bipush (pc := 9) (v := 9) C dX7_layer_9 kb_9 ?_
    refine g_callI (pc := 11) (rest := []) (g_runS C ms_RX7_186 (fun x1 hx1 => m_X7_isUpTo hx1) (by decide) rfl rfl (Nat.le_of_ble_eq_true rfl) dX7_layer_11) (fun r3 => ?_)
    refine g_if_eq (pc := 14) (tgt := 26) C dX7_layer_14 (by decide) (fun hc4 => ?_) (fun hc4 => ?_)
    · refine g_iconst (pc := 26) (v := -1) C dX7_layer_26 kc_m1 ?_
      exact g_iretT C dX7_layer_27
    · refine g_iload_n (pc := 17) C 3 rfl dX7_layer_17 rfl ?_
      refine g_bipush (pc := 18) (v := 9) C dX7_layer_18 kb_9 ?_
      refine g_callI (pc := 20) (rest := []) (g_runS C ms_RX7_186 (fun x1 hx1 => m_X7_isUpTo hx1) (by decide) rfl rfl (Nat.le_of_ble_eq_true rfl) dX7_layer_20) (fun r5 => ?_)
      refine g_if_ne (pc := 23) (tgt := 28) C dX7_layer_23 (by decide) (fun hc6 => ?_) (fun hc6 => ?_)
      · refine g_iconst (pc := 26) (v := -1) C dX7_layer_26 kc_m1 ?_
        exact g_iretT C dX7_layer_27
      · refine g_iload (pc := 28) C 4 rfl dX7_layer_28 ?_
        refine g_bipush (pc := 30) (v := 9) C dX7_layer_30 kb_9 ?_
        refine g_callI (pc := 32) (rest := []) (g_runS C ms_RX7_186 (fun x1 hx1 => m_X7_isUpTo hx1) (by decide) rfl rfl (Nat.le_of_ble_eq_true rfl) dX7_layer_32) (fun r7 => ?_)
        refine g_if_eq (pc := 35) (tgt := 58) C dX7_layer_35 (by decide) (fun hc8 => ?_) (fun hc8 => ?_)
        · refine g_iconst (pc := 58) (v := -1) C dX7_layer_58 kc_m1 ?_
          exact g_iretT C dX7_layer_59
        · refine g_iload (pc := 38) C 5 rfl dX7_layer_38 ?_
          refine g_bipush (pc := 40) (v := 48) C dX7_layer_40 kb_48 ?_
          refine g_callI (pc := 42) (rest := []) (g_runS C ms_RX7_186 (fun x1 hx1 => m_X7_isUpTo hx1) (by decide) rfl rfl (Nat.le_of_ble_eq_true rfl) dX7_layer_42) (fun r9 => ?_)
          refine g_if_eq (pc := 45) (tgt := 58) C dX7_layer_45 (by decide) (fun hc10 => ?_) (fun hc10 => ?_)
          · refine g_iconst (pc := 58) (v := -1) C dX7_layer_58 kc_m1 ?_
            exact g_iretT C dX7_layer_59
          · refine g_iload (pc := 48) C 6 rfl dX7_layer_48 ?_
            refine g_bipush (pc := 50) (v := 6) C dX7_layer_50 kb_6 ?_
            refine g_callI (pc := 52) (rest := []) (g_runS C ms_RX7_105 (fun x1 hx1 => m_X7_isBelow hx1) (by decide) rfl rfl (Nat.le_of_ble_eq_true rfl) dX7_layer_52) (fun r11 => ?_)
            refine g_if_ne (pc := 55) (tgt := 60) C dX7_layer_55 (by decide) (fun hc12 => ?_) (fun hc12 => ?_)
            · refine g_iconst (pc := 58) (v := -1) C dX7_layer_58 kc_m1 ?_
              exact g_iretT C dX7_layer_59
            · refine g_aload_n (pc := 60) C 0 rfl dX7_layer_60 rfl ?_
              refine g_get (pc := 61) C so_RX7 4 fl_RX7_34 (v := .ref (w.2.1 (15))) rfl dX7_layer_61 ?_
              refine g_iload_n (pc := 64) C 1 rfl dX7_layer_64 rfl ?_
              refine g_aald (pc := 65) (cA := 0) C sr_snows rfl rfl dX7_layer_65 (fun hb13 => ?_)
              refine g_get (pc := 66) C (so_RX5 (isSn hb13)) 0 fl_RX7_157 (v := .int (h.1 (16 + 2 * x1.toNatClampNeg) 0)) rfl dX7_layer_66 ?_
              refine g_if_ne (pc := 69) (tgt := 78) C dX7_layer_69 (by decide) (fun hc14 => ?_) (fun hc14 => ?_)
              · refine g_aload_n (pc := 72) C 0 rfl dX7_layer_72 rfl ?_
                refine g_iconst (pc := 73) (v := 1) C dX7_layer_73 kc_1 ?_
                refine g_callIT (pc := 74) (rest := []) (g_runV C mv_RX7_109 (fun x1 hx1 => m_X7_found hx1) so_RX7 rfl (by decide) rfl rfl (Nat.le_of_ble_eq_true rfl) dX7_layer_74) (fun q15 => ?_)
                exact g_iretT C dX7_layer_77
              · refine g_aload_n (pc := 78) C 0 rfl dX7_layer_78 rfl ?_
                refine g_get (pc := 79) C so_RX7 10 fl_RX7_70 (v := .ref (w.2.1 (135))) rfl dX7_layer_79 ?_
                refine g_aload_n (pc := 82) C 0 rfl dX7_layer_82 rfl ?_
                refine g_get (pc := 83) C so_RX7 4 fl_RX7_34 (v := .ref (w.2.1 (15))) rfl dX7_layer_83 ?_
                refine g_iload_n (pc := 86) C 1 rfl dX7_layer_86 rfl ?_
                refine g_aald (pc := 87) (cA := 0) C sr_snows rfl rfl dX7_layer_87 (fun hb16 => ?_)
                refine g_get (pc := 88) C (so_RX5 (isSn hb16)) 1 fl_RX7_161 (v := .ref (w.2.1 (16 + 2 * x1.toNatClampNeg + 1))) rfl dX7_layer_88 ?_
                refine g_iconst (pc := 91) (v := 2) C dX7_layer_91 kc_2 ?_
                refine g_iald (pc := 92) C (siS (isSn hb16)) dX7_layer_92 (fun hb17 => ?_)
                refine g_iload_n (pc := 93) C 2 rfl dX7_layer_93 rfl ?_
                refine g_iload_n (pc := 94) C 3 rfl dX7_layer_94 rfl ?_
                refine g_iload (pc := 95) C 4 rfl dX7_layer_95 ?_
                refine g_iconst (pc := 97) (v := 1) C dX7_layer_97 kc_1 ?_
                refine g_callV (pc := 98) (rest := []) (g_runV C mv_RX7_298 (fun x1 hx1 => m_X2_enter hx1) so_RX2 rfl (by decide) rfl rfl (Nat.le_of_ble_eq_true rfl) dX7_layer_98) (fun h18 => ?_)
                refine g_iconst (pc := 101) (v := 0) C dX7_layer_101 kc_0 ?_
                refine g_istore (pc := 102) C dX7_layer_102 (by decide) (lv' := [(7, .int (0 : Int32)), (0, .ref (w.2.1 (0))), (1, .int x1), (2, .int x2), (3, .int x3), (4, .int x4), (5, .int x5), (6, .int x6)]) rfl ?_
                refine g_lv (lv' := [(0, .ref (w.2.1 (0))), (5, .int x5), (6, .int x6), (7, .int (0 : Int32))]) [1, 6, 7, 0] rfl ?_
                exact j_X7_layer_104 C KF x5 x6 (0 : Int32) h18
/-- SnowHouse$Indoors.breathes()Z -/
def f_X2_breathes_2   : Nat → Int32 → TT → Option (Int32 × TT)
  | 0, _, _ => none
  | n + 1, x1, h => (if (12 : Int32) ≤ x1 then some ((1 : Int32), h) else (f_X2_hour h).bind fun h2 => (if (50 : Int32) ≤ (h2.1 135 1) then f_X2_breathes_2 n (x1 + (1 : Int32)) h2 else some ((0 : Int32), h2)))
set_option maxRecDepth 20000 in
theorem j_X2_breathes_2 {p : Program} {l : Launch} {e : Env} {R : Room} {s : State} {m : MethodId} {args : Array Value} {below : List Frame} {meth : Method} {c : Code} {w : WK} (C : CX p R s m args meth c w RX2 cX2_breathes 2 (some .boolean) 3 64)     : ∀ (n : Nat) (x1 : Int32) (h : TT), GO p l e R s m args below meth c w 2 fIT (f_X2_breathes_2 n x1 h) 2 [(0, .ref (w.2.1 (135))), (1, .int x1)] [] h := by
  intro n
  induction n with
  | zero =>
    intro x1 h
    exact g_none
  | succ n ih =>
    intro x1 h
    rw [f_X2_breathes_2]
    refine g_iload_n (pc := 2) C 1 rfl dX2_breathes_2 rfl ?_
    refine g_bipush (pc := 3) (v := 12) C dX2_breathes_3 kb_12 ?_
    refine g_icmp_ge (pc := 5) (tgt := 29) C dX2_breathes_5 (by decide) (fun hc1 => ?_) (fun hc1 => ?_)
    · refine g_iconst (pc := 29) (v := 1) C dX2_breathes_29 kc_1 ?_
      exact g_zretT C dX2_breathes_30 rfl
    · refine g_aload_n (pc := 8) C 0 rfl dX2_breathes_8 rfl ?_
      refine g_callV (pc := 9) (rest := []) (g_runV C mv_RX2_58 (fun x1 hx1 => m_X2_hour hx1) so_RX2 rfl (by decide) rfl rfl (Nat.le_of_ble_eq_true rfl) dX2_breathes_9) (fun h2 => ?_)
      refine g_aload_n (pc := 12) C 0 rfl dX2_breathes_12 rfl ?_
      refine g_get (pc := 13) C so_RX2 1 fl_RX2_32 (v := .int (h2.1 135 1)) rfl dX2_breathes_13 ?_
      refine g_bipush (pc := 16) (v := 50) C dX2_breathes_16 kb_50 ?_
      refine g_icmp_ge (pc := 18) (tgt := 23) C dX2_breathes_18 (by decide) (fun hc3 => ?_) (fun hc3 => ?_)
      · refine g_iinc (pc := 23) C 1 rfl dX2_breathes_23 (ki_1 _) (by decide) (lv' := [(1, .int (x1 + (1 : Int32))), (0, .ref (w.2.1 (135)))]) rfl ?_
        refine g_goto (pc := 26) (tgt := 2) C dX2_breathes_26 (by decide) ?_
        refine g_lv (lv' := [(0, .ref (w.2.1 (135))), (1, .int (x1 + (1 : Int32)))]) [1, 0] rfl ?_
        exact ih (x1 + (1 : Int32)) h2
      · refine g_iconst (pc := 21) (v := 0) C dX2_breathes_21 kc_0 ?_
        exact g_zretT C dX2_breathes_22 rfl
def f_X2_breathes (h : TT)  : Option (Int32 × TT) := f_X2_breathes_2 KF (0 : Int32) h
set_option maxRecDepth 20000 in
theorem m_X2_breathes {l : Launch} {w : WK} {h : TT}  {x : (Int32 × TT)} (hx : f_X2_breathes h  = some x)  : Met l yX2_breathes (Cond.code yX2_breathes cX2_breathes 2 (some .boolean) :: wsG) { frames := 3, cells := 0, slots := 0, locals := 64 } (PG w [.ref (w.2.1 (135))] h) (QG w (fIT x)) 0 0 (AA w) := by
  refine m_entry (own := RX2) (f := fIT) hx (by decide) rfl (Nat.le_of_ble_eq_true rfl) (fun p e s m args below meth c C => ?_)
  show GO p l e _ s m args below meth c w 2 fIT (f_X2_breathes h ) 0 [(0, .ref (w.2.1 (135)))] [] h
  unfold f_X2_breathes
  refine g_iconst (pc := 0) (v := 0) C dX2_breathes_0 kc_0 ?_
  refine g_istore_n (pc := 1) C dX2_breathes_1 rfl (by decide) (lv' := [(1, .int (0 : Int32)), (0, .ref (w.2.1 (135)))]) rfl ?_
  refine g_lv (lv' := [(0, .ref (w.2.1 (135))), (1, .int (0 : Int32))]) [1, 0] rfl ?_
  exact j_X2_breathes_2 C KF (0 : Int32) h
/-- SnowHouse.hole(III)I -/
def f_X7_hole_49   : Nat → Int32 → Int32 → Int32 → Int32 → TT → Option (Int32 × TT)
  | 0, _, _, _, _, _ => none
  | n + 1, x1, x2, x3, x4, h => (if (9 : Int32) < x4 then some ((-9 : Int32), h) else if inb x1 4 = true then if inb (2 : Int32) 4 = true then (f_X2_enter h (h.1 (16 + 2 * x1.toNatClampNeg + 1) (2 : Int32).toNatClampNeg) x2 x3 x4 (1 : Int32)).bind fun h13 => (f_X2_breathes h13).bind fun q14 => (if q14.1 = 0 then f_X7_hole_49 n x1 x2 x3 (x4 + (1 : Int32)) q14.2 else if inb (5 : Int32) 6 = true then nm (wr q14.2 0 13 (q14.2.1 136 (5 : Int32).toNatClampNeg)) fun h17 => some (x4, h17) else none) else none else none)
set_option maxRecDepth 20000 in
theorem j_X7_hole_49 {p : Program} {l : Launch} {e : Env} {R : Room} {s : State} {m : MethodId} {args : Array Value} {below : List Frame} {meth : Method} {c : Code} {w : WK} (C : CX p R s m args meth c w RX7 cX7_hole 5 (some .int) 4 85)     : ∀ (n : Nat) (x1 : Int32) (x2 : Int32) (x3 : Int32) (x4 : Int32) (h : TT), GO p l e R s m args below meth c w 5 fIT (f_X7_hole_49 n x1 x2 x3 x4 h) 49 [(0, .ref (w.2.1 (0))), (1, .int x1), (2, .int x2), (3, .int x3), (4, .int x4)] [] h := by
  intro n
  induction n with
  | zero =>
    intro x1 x2 x3 x4 h
    exact g_none
  | succ n ih =>
    intro x1 x2 x3 x4 h
    rw [f_X7_hole_49]
    refine g_iload (pc := 49) C 4 rfl dX7_hole_49 ?_
    refine g_bipush (pc := 51) (v := 9) C dX7_hole_51 kb_9 ?_
    refine g_icmp_gt (pc := 53) (tgt := 114) C dX7_hole_53 (by decide) (fun hc10 => ?_) (fun hc10 => ?_)
    · refine g_bipush (pc := 114) (v := -9) C dX7_hole_114 kb_m9 ?_
      exact g_iretT C dX7_hole_116
    · refine g_aload_n (pc := 56) C 0 rfl dX7_hole_56 rfl ?_
      refine g_get (pc := 57) C so_RX7 10 fl_RX7_70 (v := .ref (w.2.1 (135))) rfl dX7_hole_57 ?_
      refine g_aload_n (pc := 60) C 0 rfl dX7_hole_60 rfl ?_
      refine g_get (pc := 61) C so_RX7 4 fl_RX7_34 (v := .ref (w.2.1 (15))) rfl dX7_hole_61 ?_
      refine g_iload_n (pc := 64) C 1 rfl dX7_hole_64 rfl ?_
      refine g_aald (pc := 65) (cA := 0) C sr_snows rfl rfl dX7_hole_65 (fun hb11 => ?_)
      refine g_get (pc := 66) C (so_RX5 (isSn hb11)) 1 fl_RX7_161 (v := .ref (w.2.1 (16 + 2 * x1.toNatClampNeg + 1))) rfl dX7_hole_66 ?_
      refine g_iconst (pc := 69) (v := 2) C dX7_hole_69 kc_2 ?_
      refine g_iald (pc := 70) C (siS (isSn hb11)) dX7_hole_70 (fun hb12 => ?_)
      refine g_iload_n (pc := 71) C 2 rfl dX7_hole_71 rfl ?_
      refine g_iload_n (pc := 72) C 3 rfl dX7_hole_72 rfl ?_
      refine g_iload (pc := 73) C 4 rfl dX7_hole_73 ?_
      refine g_iconst (pc := 75) (v := 1) C dX7_hole_75 kc_1 ?_
      refine g_callV (pc := 76) (rest := []) (g_runV C mv_RX7_298 (fun x1 hx1 => m_X2_enter hx1) so_RX2 rfl (by decide) rfl rfl (Nat.le_of_ble_eq_true rfl) dX7_hole_76) (fun h13 => ?_)
      refine g_aload_n (pc := 79) C 0 rfl dX7_hole_79 rfl ?_
      refine g_get (pc := 80) C so_RX7 10 fl_RX7_70 (v := .ref (w.2.1 (135))) rfl dX7_hole_80 ?_
      refine g_callIT (pc := 83) (rest := []) (g_runV C mv_RX7_311 (fun x1 hx1 => m_X2_breathes hx1) so_RX2 rfl (by decide) rfl rfl (Nat.le_of_ble_eq_true rfl) dX7_hole_83) (fun q14 => ?_)
      refine g_if_ne (pc := 86) (tgt := 92) C dX7_hole_86 (by decide) (fun hc15 => ?_) (fun hc15 => ?_)
      · refine g_goto (pc := 89) (tgt := 108) C dX7_hole_89 (by decide) ?_
        refine g_iinc (pc := 108) C 4 rfl dX7_hole_108 (ki_1 _) (by decide) (lv' := [(4, .int (x4 + (1 : Int32))), (0, .ref (w.2.1 (0))), (1, .int x1), (2, .int x2), (3, .int x3)]) rfl ?_
        refine g_goto (pc := 111) (tgt := 49) C dX7_hole_111 (by decide) ?_
        refine g_lv (lv' := [(0, .ref (w.2.1 (0))), (1, .int x1), (2, .int x2), (3, .int x3), (4, .int (x4 + (1 : Int32)))]) [1, 2, 3, 4, 0] rfl ?_
        exact ih x1 x2 x3 (x4 + (1 : Int32)) q14.2
      · refine g_aload_n (pc := 92) C 0 rfl dX7_hole_92 rfl ?_
        refine g_aload_n (pc := 93) C 0 rfl dX7_hole_93 rfl ?_
        refine g_get (pc := 94) C so_RX7 10 fl_RX7_70 (v := .ref (w.2.1 (135))) rfl dX7_hole_94 ?_
        refine g_get (pc := 97) C so_RX2 0 fl_RX7_305 (v := .ref (w.2.1 (136))) rfl dX7_hole_97 ?_
        refine g_iconst (pc := 100) (v := 5) C dX7_hole_100 kc_5 ?_
        refine g_iald (pc := 101) C si_136 dX7_hole_101 (fun hb16 => ?_)
        refine g_putI (pc := 102) C so_RX7 13 fp_RX7_88 (se_RX7_13 _) rfl rfl (sl_RX7_13) dX7_hole_102 ?_
        refine g_nm (fun h17 => ?_)
        refine g_iload (pc := 105) C 4 rfl dX7_hole_105 ?_
        exact g_iretT C dX7_hole_107
def f_X7_hole (h : TT) (x1 : Int32) (x2 : Int32) (x3 : Int32) : Option (Int32 × TT) := (f_X7_isBelow h x1 (4 : Int32)).bind fun r1 => (if r1 = 0 then some ((-1 : Int32), h) else (f_X7_isUpTo h x2 (9 : Int32)).bind fun r3 => (if r3 = 0 then some ((-1 : Int32), h) else (f_X7_isUpTo h x3 (9 : Int32)).bind fun r5 => (if r5 = 0 then some ((-1 : Int32), h) else if inb x1 4 = true then (if (h.1 (16 + 2 * x1.toNatClampNeg) 0) = 0 then (f_X7_found h (1 : Int32)).bind fun q9 => some (q9.1, q9.2) else f_X7_hole_49 KF x1 x2 x3 (0 : Int32) h) else none)))
set_option maxRecDepth 20000 in
theorem m_X7_hole {l : Launch} {w : WK} {h : TT} {x1 : Int32} {x2 : Int32} {x3 : Int32} {x : (Int32 × TT)} (hx : f_X7_hole h x1 x2 x3 = some x)  : Met l yX7_hole (Cond.code yX7_hole cX7_hole 5 (some .int) :: wsG) { frames := 4, cells := 0, slots := 0, locals := 85 } (PG w [.ref (w.2.1 (0)), .int x1, .int x2, .int x3] h) (QG w (fIT x)) 0 0 (AA w) := by
  refine m_entry (own := RX7) (f := fIT) hx (by decide) rfl (Nat.le_of_ble_eq_true rfl) (fun p e s m args below meth c C => ?_)
  show GO p l e _ s m args below meth c w 5 fIT (f_X7_hole h x1 x2 x3) 0 [(0, .ref (w.2.1 (0))), (1, .int x1), (2, .int x2), (3, .int x3)] [] h
  unfold f_X7_hole
  refine g_iload_n (pc := 0) C 1 rfl dX7_hole_0 rfl ?_
  refine g_iconst (pc := 1) (v := 4) C dX7_hole_1 kc_4 ?_
  refine g_callI (pc := 2) (rest := []) (g_runS C ms_RX7_105 (fun x1 hx1 => m_X7_isBelow hx1) (by decide) rfl rfl (Nat.le_of_ble_eq_true rfl) dX7_hole_2) (fun r1 => ?_)
  refine g_if_eq (pc := 5) (tgt := 26) C dX7_hole_5 (by decide) (fun hc2 => ?_) (fun hc2 => ?_)
  · refine g_iconst (pc := 26) (v := -1) C dX7_hole_26 kc_m1 ?_
    exact g_iretT C dX7_hole_27
  · refine g_iload_n (pc := 8) C 2 rfl dX7_hole_8 rfl ?_
    refine g_bipush (pc := 9) (v := 9) C dX7_hole_9 kb_9 ?_
    refine g_callI (pc := 11) (rest := []) (g_runS C ms_RX7_186 (fun x1 hx1 => m_X7_isUpTo hx1) (by decide) rfl rfl (Nat.le_of_ble_eq_true rfl) dX7_hole_11) (fun r3 => ?_)
    refine g_if_eq (pc := 14) (tgt := 26) C dX7_hole_14 (by decide) (fun hc4 => ?_) (fun hc4 => ?_)
    · refine g_iconst (pc := 26) (v := -1) C dX7_hole_26 kc_m1 ?_
      exact g_iretT C dX7_hole_27
    · refine g_iload_n (pc := 17) C 3 rfl dX7_hole_17 rfl ?_
      refine g_bipush (pc := 18) (v := 9) C dX7_hole_18 kb_9 ?_
      refine g_callI (pc := 20) (rest := []) (g_runS C ms_RX7_186 (fun x1 hx1 => m_X7_isUpTo hx1) (by decide) rfl rfl (Nat.le_of_ble_eq_true rfl) dX7_hole_20) (fun r5 => ?_)
      refine g_if_ne (pc := 23) (tgt := 28) C dX7_hole_23 (by decide) (fun hc6 => ?_) (fun hc6 => ?_)
      · refine g_iconst (pc := 26) (v := -1) C dX7_hole_26 kc_m1 ?_
        exact g_iretT C dX7_hole_27
      · refine g_aload_n (pc := 28) C 0 rfl dX7_hole_28 rfl ?_
        refine g_get (pc := 29) C so_RX7 4 fl_RX7_34 (v := .ref (w.2.1 (15))) rfl dX7_hole_29 ?_
        refine g_iload_n (pc := 32) C 1 rfl dX7_hole_32 rfl ?_
        refine g_aald (pc := 33) (cA := 0) C sr_snows rfl rfl dX7_hole_33 (fun hb7 => ?_)
        refine g_get (pc := 34) C (so_RX5 (isSn hb7)) 0 fl_RX7_157 (v := .int (h.1 (16 + 2 * x1.toNatClampNeg) 0)) rfl dX7_hole_34 ?_
        refine g_if_ne (pc := 37) (tgt := 46) C dX7_hole_37 (by decide) (fun hc8 => ?_) (fun hc8 => ?_)
        · refine g_aload_n (pc := 40) C 0 rfl dX7_hole_40 rfl ?_
          refine g_iconst (pc := 41) (v := 1) C dX7_hole_41 kc_1 ?_
          refine g_callIT (pc := 42) (rest := []) (g_runV C mv_RX7_109 (fun x1 hx1 => m_X7_found hx1) so_RX7 rfl (by decide) rfl rfl (Nat.le_of_ble_eq_true rfl) dX7_hole_42) (fun q9 => ?_)
          exact g_iretT C dX7_hole_45
        · refine g_iconst (pc := 46) (v := 0) C dX7_hole_46 kc_0 ?_
          refine g_istore (pc := 47) C dX7_hole_47 (by decide) (lv' := [(4, .int (0 : Int32)), (0, .ref (w.2.1 (0))), (1, .int x1), (2, .int x2), (3, .int x3)]) rfl ?_
          refine g_lv (lv' := [(0, .ref (w.2.1 (0))), (1, .int x1), (2, .int x2), (3, .int x3), (4, .int (0 : Int32))]) [1, 2, 3, 4, 0] rfl ?_
          exact j_X7_hole_49 C KF x1 x2 x3 (0 : Int32) h
/-- SnowHouse$Indoors.thawedHours()I -/
def f_X2_thawedHours_40  (k4 : Int32 → Int32 → TT → Option (Int32 × TT)) (x1 : Int32) (x2 : Int32) (h : TT) : Option (Int32 × TT) := k4 x1 (x2 + (1 : Int32)) h
set_option maxRecDepth 20000 in
theorem j_X2_thawedHours_40 {p : Program} {l : Launch} {e : Env} {R : Room} {s : State} {m : MethodId} {args : Array Value} {below : List Frame} {meth : Method} {c : Code} {w : WK} (C : CX p R s m args meth c w RX2 cX2_thawedHours 3 (some .int) 3 64)    {k4 : Int32 → Int32 → TT → Option (Int32 × TT)} (hk4 : ∀ (x1 : Int32) (x2 : Int32)  (h : TT), GO p l e R s m args below meth c w 3 fIT (k4 x1 x2 h) 4 [(0, .ref (w.2.1 (135))), (1, .int x1), (2, .int x2)] [] h) (x1 : Int32) (x2 : Int32)  (h : TT) : GO p l e R s m args below meth c w 3 fIT (f_X2_thawedHours_40 k4 x1 x2 h) 40 [(0, .ref (w.2.1 (135))), (1, .int x1), (2, .int x2)] [] h := by
  unfold f_X2_thawedHours_40
  refine g_iinc (pc := 40) C 2 rfl dX2_thawedHours_40 (ki_1 _) (by decide) (lv' := [(2, .int (x2 + (1 : Int32))), (0, .ref (w.2.1 (135))), (1, .int x1)]) rfl ?_
  refine g_goto (pc := 43) (tgt := 4) C dX2_thawedHours_43 (by decide) ?_
  refine g_lv (lv' := [(0, .ref (w.2.1 (135))), (1, .int x1), (2, .int (x2 + (1 : Int32)))]) [1, 2, 0] rfl ?_
  exact hk4 x1 (x2 + (1 : Int32)) h
def f_X2_thawedHours_4   : Nat → Int32 → Int32 → TT → Option (Int32 × TT)
  | 0, _, _, _ => none
  | n + 1, x1, x2, h => (if (24 : Int32) ≤ x2 then some (x1, h) else (f_X2_hour h).bind fun h2 => if inb (5 : Int32) 6 = true then (if (h2.1 136 (5 : Int32).toNatClampNeg) ≤ (30 : Int32) then if inb (5 : Int32) 6 = true then (if (h2.1 136 (5 : Int32).toNatClampNeg) ≤ 0 then f_X2_thawedHours_40 (f_X2_thawedHours_4 n) x1 x2 h2 else f_X2_thawedHours_40 (f_X2_thawedHours_4 n) (x1 + (1 : Int32)) x2 h2) else none else some ((-9 : Int32), h2)) else none)
set_option maxRecDepth 20000 in
theorem j_X2_thawedHours_4 {p : Program} {l : Launch} {e : Env} {R : Room} {s : State} {m : MethodId} {args : Array Value} {below : List Frame} {meth : Method} {c : Code} {w : WK} (C : CX p R s m args meth c w RX2 cX2_thawedHours 3 (some .int) 3 64)     : ∀ (n : Nat) (x1 : Int32) (x2 : Int32) (h : TT), GO p l e R s m args below meth c w 3 fIT (f_X2_thawedHours_4 n x1 x2 h) 4 [(0, .ref (w.2.1 (135))), (1, .int x1), (2, .int x2)] [] h := by
  intro n
  induction n with
  | zero =>
    intro x1 x2 h
    exact g_none
  | succ n ih =>
    intro x1 x2 h
    rw [f_X2_thawedHours_4]
    refine g_iload_n (pc := 4) C 2 rfl dX2_thawedHours_4 rfl ?_
    refine g_bipush (pc := 5) (v := 24) C dX2_thawedHours_5 kb_24 ?_
    refine g_icmp_ge (pc := 7) (tgt := 46) C dX2_thawedHours_7 (by decide) (fun hc1 => ?_) (fun hc1 => ?_)
    · refine g_iload_n (pc := 46) C 1 rfl dX2_thawedHours_46 rfl ?_
      exact g_iretT C dX2_thawedHours_47
    · refine g_aload_n (pc := 10) C 0 rfl dX2_thawedHours_10 rfl ?_
      refine g_callV (pc := 11) (rest := []) (g_runV C mv_RX2_58 (fun x1 hx1 => m_X2_hour hx1) so_RX2 rfl (by decide) rfl rfl (Nat.le_of_ble_eq_true rfl) dX2_thawedHours_11) (fun h2 => ?_)
      refine g_aload_n (pc := 14) C 0 rfl dX2_thawedHours_14 rfl ?_
      refine g_get (pc := 15) C so_RX2 0 fl_RX2_9 (v := .ref (w.2.1 (136))) rfl dX2_thawedHours_15 ?_
      refine g_iconst (pc := 18) (v := 5) C dX2_thawedHours_18 kc_5 ?_
      refine g_iald (pc := 19) C si_136 dX2_thawedHours_19 (fun hb3 => ?_)
      refine g_bipush (pc := 20) (v := 30) C dX2_thawedHours_20 kb_30 ?_
      refine g_icmp_le (pc := 22) (tgt := 28) C dX2_thawedHours_22 (by decide) (fun hc4 => ?_) (fun hc4 => ?_)
      · refine g_aload_n (pc := 28) C 0 rfl dX2_thawedHours_28 rfl ?_
        refine g_get (pc := 29) C so_RX2 0 fl_RX2_9 (v := .ref (w.2.1 (136))) rfl dX2_thawedHours_29 ?_
        refine g_iconst (pc := 32) (v := 5) C dX2_thawedHours_32 kc_5 ?_
        refine g_iald (pc := 33) C si_136 dX2_thawedHours_33 (fun hb5 => ?_)
        refine g_if_le (pc := 34) (tgt := 40) C dX2_thawedHours_34 (by decide) (fun hc6 => ?_) (fun hc6 => ?_)
        · exact j_X2_thawedHours_40 C ih x1 x2 h2
        · refine g_iinc (pc := 37) C 1 rfl dX2_thawedHours_37 (ki_1 _) (by decide) (lv' := [(1, .int (x1 + (1 : Int32))), (0, .ref (w.2.1 (135))), (2, .int x2)]) rfl ?_
          refine g_lv (lv' := [(0, .ref (w.2.1 (135))), (1, .int (x1 + (1 : Int32))), (2, .int x2)]) [1, 0, 2] rfl ?_
          exact j_X2_thawedHours_40 C ih (x1 + (1 : Int32)) x2 h2
      · refine g_bipush (pc := 25) (v := -9) C dX2_thawedHours_25 kb_m9 ?_
        exact g_iretT C dX2_thawedHours_27
def f_X2_thawedHours (h : TT)  : Option (Int32 × TT) := f_X2_thawedHours_4 KF (0 : Int32) (0 : Int32) h
set_option maxRecDepth 20000 in
theorem m_X2_thawedHours {l : Launch} {w : WK} {h : TT}  {x : (Int32 × TT)} (hx : f_X2_thawedHours h  = some x)  : Met l yX2_thawedHours (Cond.code yX2_thawedHours cX2_thawedHours 3 (some .int) :: wsG) { frames := 3, cells := 0, slots := 0, locals := 64 } (PG w [.ref (w.2.1 (135))] h) (QG w (fIT x)) 0 0 (AA w) := by
  refine m_entry (own := RX2) (f := fIT) hx (by decide) rfl (Nat.le_of_ble_eq_true rfl) (fun p e s m args below meth c C => ?_)
  show GO p l e _ s m args below meth c w 3 fIT (f_X2_thawedHours h ) 0 [(0, .ref (w.2.1 (135)))] [] h
  unfold f_X2_thawedHours
  refine g_iconst (pc := 0) (v := 0) C dX2_thawedHours_0 kc_0 ?_
  refine g_istore_n (pc := 1) C dX2_thawedHours_1 rfl (by decide) (lv' := [(1, .int (0 : Int32)), (0, .ref (w.2.1 (135)))]) rfl ?_
  refine g_iconst (pc := 2) (v := 0) C dX2_thawedHours_2 kc_0 ?_
  refine g_istore_n (pc := 3) C dX2_thawedHours_3 rfl (by decide) (lv' := [(2, .int (0 : Int32)), (1, .int (0 : Int32)), (0, .ref (w.2.1 (135)))]) rfl ?_
  refine g_lv (lv' := [(0, .ref (w.2.1 (135))), (1, .int (0 : Int32)), (2, .int (0 : Int32))]) [2, 1, 0] rfl ?_
  exact j_X2_thawedHours_4 C KF (0 : Int32) (0 : Int32) h
/-- SnowHouse.drips(III)I -/
def f_X7_drips_50   : Nat → Int32 → Int32 → Int32 → Int32 → TT → Option (Int32 × TT)
  | 0, _, _, _, _, _ => none
  | n + 1, x1, x2, x3, x4, h => (if x4 < 0 then some ((-9 : Int32), h) else if inb x1 4 = true then if inb (2 : Int32) 4 = true then (f_X2_enter h (h.1 (16 + 2 * x1.toNatClampNeg + 1) (2 : Int32).toNatClampNeg) x4 x2 x3 (1 : Int32)).bind fun h13 => (f_X2_thawedHours h13).bind fun q14 => nm (q14.1) fun y15 => (if y15 = (-9 : Int32) then f_X7_drips_50 n x1 x2 x3 (x4 + (-1 : Int32)) q14.2 else nm (wr q14.2 0 13 y15) fun h17 => some (x4, h17)) else none else none)
set_option maxRecDepth 20000 in
theorem j_X7_drips_50 {p : Program} {l : Launch} {e : Env} {R : Room} {s : State} {m : MethodId} {args : Array Value} {below : List Frame} {meth : Method} {c : Code} {w : WK} (C : CX p R s m args meth c w RX7 cX7_drips 6 (some .int) 4 86)     : ∀ (n : Nat) (x1 : Int32) (x2 : Int32) (x3 : Int32) (x4 : Int32) (h : TT), GO p l e R s m args below meth c w 6 fIT (f_X7_drips_50 n x1 x2 x3 x4 h) 50 [(0, .ref (w.2.1 (0))), (1, .int x1), (2, .int x2), (3, .int x3), (4, .int x4)] [] h := by
  intro n
  induction n with
  | zero =>
    intro x1 x2 x3 x4 h
    exact g_none
  | succ n ih =>
    intro x1 x2 x3 x4 h
    rw [f_X7_drips_50]
    refine g_iload (pc := 50) C 4 rfl dX7_drips_50 ?_
    refine g_if_lt (pc := 52) (tgt := 112) C dX7_drips_52 (by decide) (fun hc10 => ?_) (fun hc10 => ?_)
    · refine g_bipush (pc := 112) (v := -9) C dX7_drips_112 kb_m9 ?_
      exact g_iretT C dX7_drips_114
    · refine g_aload_n (pc := 55) C 0 rfl dX7_drips_55 rfl ?_
      refine g_get (pc := 56) C so_RX7 10 fl_RX7_70 (v := .ref (w.2.1 (135))) rfl dX7_drips_56 ?_
      refine g_aload_n (pc := 59) C 0 rfl dX7_drips_59 rfl ?_
      refine g_get (pc := 60) C so_RX7 4 fl_RX7_34 (v := .ref (w.2.1 (15))) rfl dX7_drips_60 ?_
      refine g_iload_n (pc := 63) C 1 rfl dX7_drips_63 rfl ?_
      refine g_aald (pc := 64) (cA := 0) C sr_snows rfl rfl dX7_drips_64 (fun hb11 => ?_)
      refine g_get (pc := 65) C (so_RX5 (isSn hb11)) 1 fl_RX7_161 (v := .ref (w.2.1 (16 + 2 * x1.toNatClampNeg + 1))) rfl dX7_drips_65 ?_
      refine g_iconst (pc := 68) (v := 2) C dX7_drips_68 kc_2 ?_
      refine g_iald (pc := 69) C (siS (isSn hb11)) dX7_drips_69 (fun hb12 => ?_)
      refine g_iload (pc := 70) C 4 rfl dX7_drips_70 ?_
      refine g_iload_n (pc := 72) C 2 rfl dX7_drips_72 rfl ?_
      refine g_iload_n (pc := 73) C 3 rfl dX7_drips_73 rfl ?_
      refine g_iconst (pc := 74) (v := 1) C dX7_drips_74 kc_1 ?_
      refine g_callV (pc := 75) (rest := []) (g_runV C mv_RX7_298 (fun x1 hx1 => m_X2_enter hx1) so_RX2 rfl (by decide) rfl rfl (Nat.le_of_ble_eq_true rfl) dX7_drips_75) (fun h13 => ?_)
      refine g_aload_n (pc := 78) C 0 rfl dX7_drips_78 rfl ?_
      refine g_get (pc := 79) C so_RX7 10 fl_RX7_70 (v := .ref (w.2.1 (135))) rfl dX7_drips_79 ?_
      refine g_callIT (pc := 82) (rest := []) (g_runV C mv_RX7_315 (fun x1 hx1 => m_X2_thawedHours hx1) so_RX2 rfl (by decide) rfl rfl (Nat.le_of_ble_eq_true rfl) dX7_drips_82) (fun q14 => ?_)
      refine g_nmi (fun y15 => ?_)
      refine g_istore (pc := 85) C dX7_drips_85 (by decide) (lv' := [(5, .int y15), (0, .ref (w.2.1 (0))), (1, .int x1), (2, .int x2), (3, .int x3), (4, .int x4)]) rfl ?_
      refine g_iload (pc := 87) C 0 rfl dX7_drips_87 ?_
      refine g_bipush (pc := 89) (v := -9) C dX7_drips_89 kb_m9 ?_
      refine g_icmp_ne (pc := 91) (tgt := 97) C dX7_drips_91 (by decide) (fun hc16 => ?_) (fun hc16 => ?_)
      · refine g_goto (pc := 94) (tgt := 106) C dX7_drips_94 (by decide) ?_
        refine g_iinc (pc := 106) C 5 rfl dX7_drips_106 (ki_m1 _) (by decide) (lv' := [(4, .int (x4 + (-1 : Int32))), (5, .int y15), (0, .ref (w.2.1 (0))), (1, .int x1), (2, .int x2), (3, .int x3)]) rfl ?_
        refine g_goto (pc := 109) (tgt := 50) C dX7_drips_109 (by decide) ?_
        refine g_lv (lv' := [(0, .ref (w.2.1 (0))), (1, .int x1), (2, .int x2), (3, .int x3), (4, .int (x4 + (-1 : Int32)))]) [2, 3, 4, 5, 0] rfl ?_
        exact ih x1 x2 x3 (x4 + (-1 : Int32)) q14.2
      · refine g_aload_n (pc := 97) C 1 rfl dX7_drips_97 rfl ?_
        refine g_iload (pc := 98) C 0 rfl dX7_drips_98 ?_
        refine g_putI (pc := 100) C so_RX7 13 fp_RX7_88 (se_RX7_13 _) rfl rfl (sl_RX7_13) dX7_drips_100 ?_
        refine g_nm (fun h17 => ?_)
        refine g_iload (pc := 103) C 5 rfl dX7_drips_103 ?_
        exact g_iretT C dX7_drips_105
def f_X7_drips (h : TT) (x1 : Int32) (x2 : Int32) (x3 : Int32) : Option (Int32 × TT) := (f_X7_isBelow h x1 (4 : Int32)).bind fun r1 => (if r1 = 0 then some ((-1 : Int32), h) else (f_X7_isUpTo h x2 (9 : Int32)).bind fun r3 => (if r3 = 0 then some ((-1 : Int32), h) else (f_X7_isUpTo h x3 (9 : Int32)).bind fun r5 => (if r5 = 0 then some ((-1 : Int32), h) else if inb x1 4 = true then (if (h.1 (16 + 2 * x1.toNatClampNeg) 0) = 0 then (f_X7_found h (1 : Int32)).bind fun q9 => some (q9.1, q9.2) else f_X7_drips_50 KF x1 x2 x3 (9 : Int32) h) else none)))
set_option maxRecDepth 20000 in
theorem m_X7_drips {l : Launch} {w : WK} {h : TT} {x1 : Int32} {x2 : Int32} {x3 : Int32} {x : (Int32 × TT)} (hx : f_X7_drips h x1 x2 x3 = some x)  : Met l yX7_drips (Cond.code yX7_drips cX7_drips 6 (some .int) :: wsG) { frames := 4, cells := 0, slots := 0, locals := 86 } (PG w [.ref (w.2.1 (0)), .int x1, .int x2, .int x3] h) (QG w (fIT x)) 0 0 (AA w) := by
  refine m_entry (own := RX7) (f := fIT) hx (by decide) rfl (Nat.le_of_ble_eq_true rfl) (fun p e s m args below meth c C => ?_)
  show GO p l e _ s m args below meth c w 6 fIT (f_X7_drips h x1 x2 x3) 0 [(0, .ref (w.2.1 (0))), (1, .int x1), (2, .int x2), (3, .int x3)] [] h
  unfold f_X7_drips
  refine g_iload_n (pc := 0) C 1 rfl dX7_drips_0 rfl ?_
  refine g_iconst (pc := 1) (v := 4) C dX7_drips_1 kc_4 ?_
  refine g_callI (pc := 2) (rest := []) (g_runS C ms_RX7_105 (fun x1 hx1 => m_X7_isBelow hx1) (by decide) rfl rfl (Nat.le_of_ble_eq_true rfl) dX7_drips_2) (fun r1 => ?_)
  refine g_if_eq (pc := 5) (tgt := 26) C dX7_drips_5 (by decide) (fun hc2 => ?_) (fun hc2 => ?_)
  · refine g_iconst (pc := 26) (v := -1) C dX7_drips_26 kc_m1 ?_
    exact g_iretT C dX7_drips_27
  · refine g_iload_n (pc := 8) C 2 rfl dX7_drips_8 rfl ?_
    refine g_bipush (pc := 9) (v := 9) C dX7_drips_9 kb_9 ?_
    refine g_callI (pc := 11) (rest := []) (g_runS C ms_RX7_186 (fun x1 hx1 => m_X7_isUpTo hx1) (by decide) rfl rfl (Nat.le_of_ble_eq_true rfl) dX7_drips_11) (fun r3 => ?_)
    refine g_if_eq (pc := 14) (tgt := 26) C dX7_drips_14 (by decide) (fun hc4 => ?_) (fun hc4 => ?_)
    · refine g_iconst (pc := 26) (v := -1) C dX7_drips_26 kc_m1 ?_
      exact g_iretT C dX7_drips_27
    · refine g_iload_n (pc := 17) C 3 rfl dX7_drips_17 rfl ?_
      refine g_bipush (pc := 18) (v := 9) C dX7_drips_18 kb_9 ?_
      refine g_callI (pc := 20) (rest := []) (g_runS C ms_RX7_186 (fun x1 hx1 => m_X7_isUpTo hx1) (by decide) rfl rfl (Nat.le_of_ble_eq_true rfl) dX7_drips_20) (fun r5 => ?_)
      refine g_if_ne (pc := 23) (tgt := 28) C dX7_drips_23 (by decide) (fun hc6 => ?_) (fun hc6 => ?_)
      · refine g_iconst (pc := 26) (v := -1) C dX7_drips_26 kc_m1 ?_
        exact g_iretT C dX7_drips_27
      · refine g_aload_n (pc := 28) C 0 rfl dX7_drips_28 rfl ?_
        refine g_get (pc := 29) C so_RX7 4 fl_RX7_34 (v := .ref (w.2.1 (15))) rfl dX7_drips_29 ?_
        refine g_iload_n (pc := 32) C 1 rfl dX7_drips_32 rfl ?_
        refine g_aald (pc := 33) (cA := 0) C sr_snows rfl rfl dX7_drips_33 (fun hb7 => ?_)
        refine g_get (pc := 34) C (so_RX5 (isSn hb7)) 0 fl_RX7_157 (v := .int (h.1 (16 + 2 * x1.toNatClampNeg) 0)) rfl dX7_drips_34 ?_
        refine g_if_ne (pc := 37) (tgt := 46) C dX7_drips_37 (by decide) (fun hc8 => ?_) (fun hc8 => ?_)
        · refine g_aload_n (pc := 40) C 0 rfl dX7_drips_40 rfl ?_
          refine g_iconst (pc := 41) (v := 1) C dX7_drips_41 kc_1 ?_
          refine g_callIT (pc := 42) (rest := []) (g_runV C mv_RX7_109 (fun x1 hx1 => m_X7_found hx1) so_RX7 rfl (by decide) rfl rfl (Nat.le_of_ble_eq_true rfl) dX7_drips_42) (fun q9 => ?_)
          exact g_iretT C dX7_drips_45
        · refine g_bipush (pc := 46) (v := 9) C dX7_drips_46 kb_9 ?_
          refine g_istore (pc := 48) C dX7_drips_48 (by decide) (lv' := [(4, .int (9 : Int32)), (0, .ref (w.2.1 (0))), (1, .int x1), (2, .int x2), (3, .int x3)]) rfl ?_
          refine g_lv (lv' := [(0, .ref (w.2.1 (0))), (1, .int x1), (2, .int x2), (3, .int x3), (4, .int (9 : Int32))]) [1, 2, 3, 4, 0] rfl ?_
          exact j_X7_drips_50 C KF x1 x2 x3 (9 : Int32) h
/-- SnowHouse$Wall.daysOf(III)I -/
def f_X6_daysOf_89   (x6 : Int32) (h : TT) : Option (Int32 × TT) := some (x6 - (1 : Int32), h)
set_option maxRecDepth 20000 in
theorem j_X6_daysOf_89 {p : Program} {l : Launch} {e : Env} {R : Room} {s : State} {m : MethodId} {args : Array Value} {below : List Frame} {meth : Method} {c : Code} {w : WK} (C : CX p R s m args meth c w RX6 cX6_daysOf 7 (some .int) 0 0)     (x6 : Int32)  (h : TT) : GO p l e R s m args below meth c w 7 fIT (f_X6_daysOf_89 x6 h) 89 [(6, .int x6)] [] h := by
  unfold f_X6_daysOf_89
  refine g_iload (pc := 89) C 0 rfl dX6_daysOf_89 ?_
  refine g_iconst (pc := 91) (v := 1) C dX6_daysOf_91 kc_1 ?_
  refine g_isub (pc := 92) C dX6_daysOf_92 ?_
  exact g_iretT C dX6_daysOf_93
def f_X6_daysOf_75  (k15 : Int32 → Int32 → Int32 → Int32 → Int32 → Int32 → TT → Option (Int32 × TT)) (x1 : Int32) (x2 : Int32) (x3 : Int32) (x4 : Int32) (x5 : Int32) (x6 : Int32) (h : TT) : Option (Int32 × TT) := (if x4 < (30 : Int32) then f_X6_daysOf_89 x6 h else (if x5 ≤ (40 : Int32) then nm (wr h 137 0 x5) fun h9 => k15 x1 x2 x3 x4 x5 (x6 + (1 : Int32)) h9 else f_X6_daysOf_89 x6 h))
set_option maxRecDepth 20000 in
theorem j_X6_daysOf_75 {p : Program} {l : Launch} {e : Env} {R : Room} {s : State} {m : MethodId} {args : Array Value} {below : List Frame} {meth : Method} {c : Code} {w : WK} (C : CX p R s m args meth c w RX6 cX6_daysOf 7 (some .int) 0 0)    {k15 : Int32 → Int32 → Int32 → Int32 → Int32 → Int32 → TT → Option (Int32 × TT)} (hk15 : ∀ (x1 : Int32) (x2 : Int32) (x3 : Int32) (x4 : Int32) (x5 : Int32) (x6 : Int32)  (h : TT), GO p l e R s m args below meth c w 7 fIT (k15 x1 x2 x3 x4 x5 x6 h) 15 [(0, .ref (w.2.1 (137))), (1, .int x1), (2, .int x2), (3, .int x3), (4, .int x4), (5, .int x5), (6, .int x6)] [] h) (x1 : Int32) (x2 : Int32) (x3 : Int32) (x4 : Int32) (x5 : Int32) (x6 : Int32)  (h : TT) : GO p l e R s m args below meth c w 7 fIT (f_X6_daysOf_75 k15 x1 x2 x3 x4 x5 x6 h) 75 [(0, .ref (w.2.1 (137))), (1, .int x1), (2, .int x2), (3, .int x3), (4, .int x4), (5, .int x5), (6, .int x6)] [] h := by
  unfold f_X6_daysOf_75
  refine g_iload (pc := 75) C 4 rfl dX6_daysOf_75 ?_
  refine g_bipush (pc := 77) (v := 30) C dX6_daysOf_77 kb_30 ?_
  refine g_icmp_lt (pc := 79) (tgt := 89) C dX6_daysOf_79 (by decide) (fun hc7 => ?_) (fun hc7 => ?_)
  · refine g_lv (lv' := [(6, .int x6)]) [6] rfl ?_
    exact j_X6_daysOf_89 C x6 h
  · refine g_iload (pc := 82) C 5 rfl dX6_daysOf_82 ?_
    refine g_bipush (pc := 84) (v := 40) C dX6_daysOf_84 kb_40 ?_
    refine g_icmp_le (pc := 86) (tgt := 94) C dX6_daysOf_86 (by decide) (fun hc8 => ?_) (fun hc8 => ?_)
    · refine g_aload_n (pc := 94) C 0 rfl dX6_daysOf_94 rfl ?_
      refine g_iload (pc := 95) C 5 rfl dX6_daysOf_95 ?_
      refine g_putI (pc := 97) C so_RX6 0 fp_RX6_9 (se_RX6_0 _) rfl rfl (sl_RX6_0) dX6_daysOf_97 ?_
      refine g_nm (fun h9 => ?_)
      refine g_iinc (pc := 100) C 6 rfl dX6_daysOf_100 (ki_1 _) (by decide) (lv' := [(6, .int (x6 + (1 : Int32))), (0, .ref (w.2.1 (137))), (1, .int x1), (2, .int x2), (3, .int x3), (4, .int x4), (5, .int x5)]) rfl ?_
      refine g_goto (pc := 103) (tgt := 15) C dX6_daysOf_103 (by decide) ?_
      refine g_lv (lv' := [(0, .ref (w.2.1 (137))), (1, .int x1), (2, .int x2), (3, .int x3), (4, .int x4), (5, .int x5), (6, .int (x6 + (1 : Int32)))]) [1, 2, 3, 4, 5, 6, 0] rfl ?_
      exact hk15 x1 x2 x3 x4 x5 (x6 + (1 : Int32)) h9
    · refine g_lv (lv' := [(6, .int x6)]) [6] rfl ?_
      exact j_X6_daysOf_89 C x6 h
def f_X6_daysOf_40  (k15 : Int32 → Int32 → Int32 → Int32 → Int32 → Int32 → TT → Option (Int32 × TT)) (x1 : Int32) (x2 : Int32) (x3 : Int32) (x5 : Int32) (x6 : Int32) (xs0 : Int32) (xs1 : Int32) (xs2 : Int32) (h : TT) : Option (Int32 × TT) := nm (xs2 - (xs1 + xs0)) fun y4 => nm (x5 + (x1 + (1 : Int32))) fun y5 => (if x3 ≤ 0 then f_X6_daysOf_75 k15 x1 x2 x3 y4 y5 x6 h else if x3 = 0 then none else (if (x6 - x6 / x3 * x3) = 0 then nm (y5 - (y5 / (2 : Int32))) fun y12 => f_X6_daysOf_75 k15 x1 x2 x3 (y4 + (-5 : Int32)) y12 x6 h else f_X6_daysOf_75 k15 x1 x2 x3 y4 y5 x6 h))
set_option maxRecDepth 20000 in
theorem j_X6_daysOf_40 {p : Program} {l : Launch} {e : Env} {R : Room} {s : State} {m : MethodId} {args : Array Value} {below : List Frame} {meth : Method} {c : Code} {w : WK} (C : CX p R s m args meth c w RX6 cX6_daysOf 7 (some .int) 0 0)    {k15 : Int32 → Int32 → Int32 → Int32 → Int32 → Int32 → TT → Option (Int32 × TT)} (hk15 : ∀ (x1 : Int32) (x2 : Int32) (x3 : Int32) (x4 : Int32) (x5 : Int32) (x6 : Int32)  (h : TT), GO p l e R s m args below meth c w 7 fIT (k15 x1 x2 x3 x4 x5 x6 h) 15 [(0, .ref (w.2.1 (137))), (1, .int x1), (2, .int x2), (3, .int x3), (4, .int x4), (5, .int x5), (6, .int x6)] [] h) (x1 : Int32) (x2 : Int32) (x3 : Int32) (x5 : Int32) (x6 : Int32) (xs0 : Int32) (xs1 : Int32) (xs2 : Int32)  (h : TT) : GO p l e R s m args below meth c w 7 fIT (f_X6_daysOf_40 k15 x1 x2 x3 x5 x6 xs0 xs1 xs2 h) 40 [(0, .ref (w.2.1 (137))), (1, .int x1), (2, .int x2), (3, .int x3), (5, .int x5), (6, .int x6)] [.int xs0, .int xs1, .int xs2] h := by
  unfold f_X6_daysOf_40
  refine g_iadd (pc := 40) C dX6_daysOf_40 ?_
  refine g_isub (pc := 41) C dX6_daysOf_41 ?_
  refine g_nmi (fun y4 => ?_)
  refine g_istore (pc := 42) C dX6_daysOf_42 (by decide) (lv' := [(4, .int y4), (0, .ref (w.2.1 (137))), (1, .int x1), (2, .int x2), (3, .int x3), (5, .int x5), (6, .int x6)]) rfl ?_
  refine g_iload (pc := 44) C 5 rfl dX6_daysOf_44 ?_
  refine g_iload_n (pc := 46) C 2 rfl dX6_daysOf_46 rfl ?_
  refine g_iconst (pc := 47) (v := 1) C dX6_daysOf_47 kc_1 ?_
  refine g_iadd (pc := 48) C dX6_daysOf_48 ?_
  refine g_iadd (pc := 49) C dX6_daysOf_49 ?_
  refine g_nmi (fun y5 => ?_)
  refine g_istore (pc := 50) C dX6_daysOf_50 (by decide) (lv' := [(5, .int y5), (4, .int y4), (0, .ref (w.2.1 (137))), (1, .int x1), (2, .int x2), (3, .int x3), (6, .int x6)]) rfl ?_
  refine g_iload_n (pc := 52) C 5 rfl dX6_daysOf_52 rfl ?_
  refine g_if_le (pc := 53) (tgt := 75) C dX6_daysOf_53 (by decide) (fun hc6 => ?_) (fun hc6 => ?_)
  · refine g_lv (lv' := [(0, .ref (w.2.1 (137))), (1, .int x1), (2, .int x2), (3, .int x3), (4, .int y4), (5, .int y5), (6, .int x6)]) [2, 3, 4, 5, 1, 0, 6] rfl ?_
    exact j_X6_daysOf_75 C hk15 x1 x2 x3 y4 y5 x6 h
  · refine g_iload (pc := 56) C 6 rfl dX6_daysOf_56 ?_
    refine g_iload_n (pc := 58) C 5 rfl dX6_daysOf_58 rfl ?_
    refine g_guardp (fun hz10 => ?_)
    refine g_irem (pc := 59) C dX6_daysOf_59 hz10 ?_
    refine g_if_ne (pc := 60) (tgt := 75) C dX6_daysOf_60 (by decide) (fun hc11 => ?_) (fun hc11 => ?_)
    · refine g_iload (pc := 63) C 0 rfl dX6_daysOf_63 ?_
      refine g_iload (pc := 65) C 0 rfl dX6_daysOf_65 ?_
      refine g_iconst (pc := 67) (v := 2) C dX6_daysOf_67 kc_2 ?_
      refine g_idiv (pc := 68) C dX6_daysOf_68 (by decide) ?_
      refine g_isub (pc := 69) C dX6_daysOf_69 ?_
      refine g_nmi (fun y12 => ?_)
      refine g_istore (pc := 70) C dX6_daysOf_70 (by decide) (lv' := [(5, .int y12), (4, .int y4), (0, .ref (w.2.1 (137))), (1, .int x1), (2, .int x2), (3, .int x3), (6, .int x6)]) rfl ?_
      refine g_iinc (pc := 72) C 1 rfl dX6_daysOf_72 (ki_m5 _) (by decide) (lv' := [(4, .int (y4 + (-5 : Int32))), (5, .int y12), (0, .ref (w.2.1 (137))), (1, .int x1), (2, .int x2), (3, .int x3), (6, .int x6)]) rfl ?_
      refine g_lv (lv' := [(0, .ref (w.2.1 (137))), (1, .int x1), (2, .int x2), (3, .int x3), (4, .int (y4 + (-5 : Int32))), (5, .int y12), (6, .int x6)]) [2, 3, 4, 5, 0, 1, 6] rfl ?_
      exact j_X6_daysOf_75 C hk15 x1 x2 x3 (y4 + (-5 : Int32)) y12 x6 h
    · refine g_lv (lv' := [(0, .ref (w.2.1 (137))), (1, .int x1), (2, .int x2), (3, .int x3), (4, .int y4), (5, .int y5), (6, .int x6)]) [2, 3, 4, 5, 1, 0, 6] rfl ?_
      exact j_X6_daysOf_75 C hk15 x1 x2 x3 y4 y5 x6 h
def f_X6_daysOf_15   : Nat → Int32 → Int32 → Int32 → Int32 → Int32 → Int32 → TT → Option (Int32 × TT)
  | 0, _, _, _, _, _, _, _ => none
  | n + 1, x1, x2, x3, x4, x5, x6, h => (if (60 : Int32) < x6 then some ((60 : Int32), h) else (if x6 < (5 : Int32) then f_X6_daysOf_40 (f_X6_daysOf_15 n) x1 x2 x3 x5 x6 (0 : Int32) (((3 : Int32) * x2) + x1) x4 h else f_X6_daysOf_40 (f_X6_daysOf_15 n) x1 x2 x3 x5 x6 (2 : Int32) (((3 : Int32) * x2) + x1) x4 h))
set_option maxRecDepth 20000 in
theorem j_X6_daysOf_15 {p : Program} {l : Launch} {e : Env} {R : Room} {s : State} {m : MethodId} {args : Array Value} {below : List Frame} {meth : Method} {c : Code} {w : WK} (C : CX p R s m args meth c w RX6 cX6_daysOf 7 (some .int) 0 0)     : ∀ (n : Nat) (x1 : Int32) (x2 : Int32) (x3 : Int32) (x4 : Int32) (x5 : Int32) (x6 : Int32) (h : TT), GO p l e R s m args below meth c w 7 fIT (f_X6_daysOf_15 n x1 x2 x3 x4 x5 x6 h) 15 [(0, .ref (w.2.1 (137))), (1, .int x1), (2, .int x2), (3, .int x3), (4, .int x4), (5, .int x5), (6, .int x6)] [] h := by
  intro n
  induction n with
  | zero =>
    intro x1 x2 x3 x4 x5 x6 h
    exact g_none
  | succ n ih =>
    intro x1 x2 x3 x4 x5 x6 h
    rw [f_X6_daysOf_15]
    refine g_iload (pc := 15) C 6 rfl dX6_daysOf_15 ?_
    refine g_bipush (pc := 17) (v := 60) C dX6_daysOf_17 kb_60 ?_
    refine g_icmp_gt (pc := 19) (tgt := 106) C dX6_daysOf_19 (by decide) (fun hc2 => ?_) (fun hc2 => ?_)
    · refine g_bipush (pc := 106) (v := 60) C dX6_daysOf_106 kb_60 ?_
      exact g_iretT C dX6_daysOf_108
    · refine g_iload (pc := 22) C 4 rfl dX6_daysOf_22 ?_
      refine g_iconst (pc := 24) (v := 3) C dX6_daysOf_24 kc_3 ?_
      refine g_iload_n (pc := 25) C 2 rfl dX6_daysOf_25 rfl ?_
      refine g_imul (pc := 26) C dX6_daysOf_26 ?_
      refine g_iload_n (pc := 27) C 1 rfl dX6_daysOf_27 rfl ?_
      refine g_iadd (pc := 28) C dX6_daysOf_28 ?_
      refine g_iload (pc := 29) C 6 rfl dX6_daysOf_29 ?_
      refine g_iconst (pc := 31) (v := 5) C dX6_daysOf_31 kc_5 ?_
      refine g_icmp_lt (pc := 32) (tgt := 39) C dX6_daysOf_32 (by decide) (fun hc3 => ?_) (fun hc3 => ?_)
      · refine g_iconst (pc := 39) (v := 0) C dX6_daysOf_39 kc_0 ?_
        refine g_lv (lv' := [(0, .ref (w.2.1 (137))), (1, .int x1), (2, .int x2), (3, .int x3), (5, .int x5), (6, .int x6)]) [0, 1, 2, 3, 5, 6] rfl ?_
        exact j_X6_daysOf_40 C ih x1 x2 x3 x5 x6 (0 : Int32) (((3 : Int32) * x2) + x1) x4 h
      · refine g_iconst (pc := 35) (v := 2) C dX6_daysOf_35 kc_2 ?_
        refine g_goto (pc := 36) (tgt := 40) C dX6_daysOf_36 (by decide) ?_
        refine g_lv (lv' := [(0, .ref (w.2.1 (137))), (1, .int x1), (2, .int x2), (3, .int x3), (5, .int x5), (6, .int x6)]) [0, 1, 2, 3, 5, 6] rfl ?_
        exact j_X6_daysOf_40 C ih x1 x2 x3 x5 x6 (2 : Int32) (((3 : Int32) * x2) + x1) x4 h
def f_X6_daysOf (h : TT) (x1 : Int32) (x2 : Int32) (x3 : Int32) : Option (Int32 × TT) := nm (wr h 137 0 (0 : Int32)) fun h1 => f_X6_daysOf_15 KF x1 x2 x3 (100 : Int32) (0 : Int32) (1 : Int32) h1
set_option maxRecDepth 20000 in
theorem m_X6_daysOf {l : Launch} {w : WK} {h : TT} {x1 : Int32} {x2 : Int32} {x3 : Int32} {x : (Int32 × TT)} (hx : f_X6_daysOf h x1 x2 x3 = some x)  : Met l yX6_daysOf (Cond.code yX6_daysOf cX6_daysOf 7 (some .int) :: wsG) { frames := 0, cells := 0, slots := 0, locals := 0 } (PG w [.ref (w.2.1 (137)), .int x1, .int x2, .int x3] h) (QG w (fIT x)) 0 0 (AA w) := by
  refine m_entry (own := RX6) (f := fIT) hx (by decide) rfl (Nat.le_of_ble_eq_true rfl) (fun p e s m args below meth c C => ?_)
  show GO p l e _ s m args below meth c w 7 fIT (f_X6_daysOf h x1 x2 x3) 0 [(0, .ref (w.2.1 (137))), (1, .int x1), (2, .int x2), (3, .int x3)] [] h
  unfold f_X6_daysOf
  refine g_bipush (pc := 0) (v := 100) C dX6_daysOf_0 kb_100 ?_
  refine g_istore (pc := 2) C dX6_daysOf_2 (by decide) (lv' := [(4, .int (100 : Int32)), (0, .ref (w.2.1 (137))), (1, .int x1), (2, .int x2), (3, .int x3)]) rfl ?_
  refine g_iconst (pc := 4) (v := 0) C dX6_daysOf_4 kc_0 ?_
  refine g_istore (pc := 5) C dX6_daysOf_5 (by decide) (lv' := [(5, .int (0 : Int32)), (4, .int (100 : Int32)), (0, .ref (w.2.1 (137))), (1, .int x1), (2, .int x2), (3, .int x3)]) rfl ?_
  refine g_aload_n (pc := 7) C 2 rfl dX6_daysOf_7 rfl ?_
  refine g_iconst (pc := 8) (v := 0) C dX6_daysOf_8 kc_0 ?_
  refine g_putI (pc := 9) C so_RX6 0 fp_RX6_9 (se_RX6_0 _) rfl rfl (sl_RX6_0) dX6_daysOf_9 ?_
  refine g_nm (fun h1 => ?_)
  refine g_iconst (pc := 12) (v := 1) C dX6_daysOf_12 kc_1 ?_
  refine g_istore (pc := 13) C dX6_daysOf_13 (by decide) (lv' := [(6, .int (1 : Int32)), (5, .int (0 : Int32)), (4, .int (100 : Int32)), (0, .ref (w.2.1 (137))), (1, .int x1), (2, .int x2), (3, .int x3)]) rfl ?_
  refine g_lv (lv' := [(0, .ref (w.2.1 (137))), (1, .int x1), (2, .int x2), (3, .int x3), (4, .int (100 : Int32)), (5, .int (0 : Int32)), (6, .int (1 : Int32))]) [3, 4, 5, 6, 2, 1, 0] rfl ?_
  exact j_X6_daysOf_15 C KF x1 x2 x3 (100 : Int32) (0 : Int32) (1 : Int32) h1
/-- SnowHouse.lasts(III)I -/
def f_X7_lasts (h : TT) (x1 : Int32) (x2 : Int32) (x3 : Int32) : Option (Int32 × TT) := (f_X7_isUpTo h x1 (9 : Int32)).bind fun r1 => (if r1 = 0 then some ((-1 : Int32), h) else (f_X7_isUpTo h x2 (9 : Int32)).bind fun r3 => (if r3 = 0 then some ((-1 : Int32), h) else (f_X7_isUpTo h x3 (9 : Int32)).bind fun r5 => (if r5 = 0 then some ((-1 : Int32), h) else (f_X6_daysOf h x1 x2 x3).bind fun q7 => nm (q7.1) fun y8 => nm (wr q7.2 0 13 (q7.2.1 137 0)) fun h9 => some (y8, h9))))
set_option maxRecDepth 20000 in
theorem m_X7_lasts {l : Launch} {w : WK} {h : TT} {x1 : Int32} {x2 : Int32} {x3 : Int32} {x : (Int32 × TT)} (hx : f_X7_lasts h x1 x2 x3 = some x)  : Met l yX7_lasts (Cond.code yX7_lasts cX7_lasts 5 (some .int) :: wsG) { frames := 1, cells := 0, slots := 0, locals := 26 } (PG w [.ref (w.2.1 (0)), .int x1, .int x2, .int x3] h) (QG w (fIT x)) 0 0 (AA w) := by
  refine m_entry (own := RX7) (f := fIT) hx (by decide) rfl (Nat.le_of_ble_eq_true rfl) (fun p e s m args below meth c C => ?_)
  show GO p l e _ s m args below meth c w 5 fIT (f_X7_lasts h x1 x2 x3) 0 [(0, .ref (w.2.1 (0))), (1, .int x1), (2, .int x2), (3, .int x3)] [] h
  unfold f_X7_lasts
  refine g_iload_n (pc := 0) C 1 rfl dX7_lasts_0 rfl ?_
  refine g_bipush (pc := 1) (v := 9) C dX7_lasts_1 kb_9 ?_
  refine g_callI (pc := 3) (rest := []) (g_runS C ms_RX7_186 (fun x1 hx1 => m_X7_isUpTo hx1) (by decide) rfl rfl (Nat.le_of_ble_eq_true rfl) dX7_lasts_3) (fun r1 => ?_)
  refine g_if_eq (pc := 6) (tgt := 27) C dX7_lasts_6 (by decide) (fun hc2 => ?_) (fun hc2 => ?_)
  · refine g_iconst (pc := 27) (v := -1) C dX7_lasts_27 kc_m1 ?_
    exact g_iretT C dX7_lasts_28
  · refine g_iload_n (pc := 9) C 2 rfl dX7_lasts_9 rfl ?_
    refine g_bipush (pc := 10) (v := 9) C dX7_lasts_10 kb_9 ?_
    refine g_callI (pc := 12) (rest := []) (g_runS C ms_RX7_186 (fun x1 hx1 => m_X7_isUpTo hx1) (by decide) rfl rfl (Nat.le_of_ble_eq_true rfl) dX7_lasts_12) (fun r3 => ?_)
    refine g_if_eq (pc := 15) (tgt := 27) C dX7_lasts_15 (by decide) (fun hc4 => ?_) (fun hc4 => ?_)
    · refine g_iconst (pc := 27) (v := -1) C dX7_lasts_27 kc_m1 ?_
      exact g_iretT C dX7_lasts_28
    · refine g_iload_n (pc := 18) C 3 rfl dX7_lasts_18 rfl ?_
      refine g_bipush (pc := 19) (v := 9) C dX7_lasts_19 kb_9 ?_
      refine g_callI (pc := 21) (rest := []) (g_runS C ms_RX7_186 (fun x1 hx1 => m_X7_isUpTo hx1) (by decide) rfl rfl (Nat.le_of_ble_eq_true rfl) dX7_lasts_21) (fun r5 => ?_)
      refine g_if_ne (pc := 24) (tgt := 29) C dX7_lasts_24 (by decide) (fun hc6 => ?_) (fun hc6 => ?_)
      · refine g_iconst (pc := 27) (v := -1) C dX7_lasts_27 kc_m1 ?_
        exact g_iretT C dX7_lasts_28
      · refine g_aload_n (pc := 29) C 0 rfl dX7_lasts_29 rfl ?_
        refine g_get (pc := 30) C so_RX7 11 fl_RX7_77 (v := .ref (w.2.1 (137))) rfl dX7_lasts_30 ?_
        refine g_iload_n (pc := 33) C 1 rfl dX7_lasts_33 rfl ?_
        refine g_iload_n (pc := 34) C 2 rfl dX7_lasts_34 rfl ?_
        refine g_iload_n (pc := 35) C 3 rfl dX7_lasts_35 rfl ?_
        refine g_callIT (pc := 36) (rest := []) (g_runV C mv_RX7_318 (fun x1 hx1 => m_X6_daysOf hx1) so_RX6 rfl (by decide) rfl rfl (Nat.le_of_ble_eq_true rfl) dX7_lasts_36) (fun q7 => ?_)
        refine g_nmi (fun y8 => ?_)
        refine g_istore (pc := 39) C dX7_lasts_39 (by decide) (lv' := [(4, .int y8), (0, .ref (w.2.1 (0))), (1, .int x1), (2, .int x2), (3, .int x3)]) rfl ?_
        refine g_aload_n (pc := 41) C 1 rfl dX7_lasts_41 rfl ?_
        refine g_aload_n (pc := 42) C 1 rfl dX7_lasts_42 rfl ?_
        refine g_get (pc := 43) C so_RX7 11 fl_RX7_77 (v := .ref (w.2.1 (137))) rfl dX7_lasts_43 ?_
        refine g_get (pc := 46) C so_RX6 0 fl_RX7_322 (v := .int (q7.2.1 137 0)) rfl dX7_lasts_46 ?_
        refine g_putI (pc := 49) C so_RX7 13 fp_RX7_88 (se_RX7_13 _) rfl rfl (sl_RX7_13) dX7_lasts_49 ?_
        refine g_nm (fun h9 => ?_)
        refine g_iload (pc := 52) C 0 rfl dX7_lasts_52 ?_
        exact g_iretT C dX7_lasts_54
/-- SnowHouse.scrape(II)I -/
def f_X7_scrape_62  (k28 : Int32 → Int32 → Int32 → Int32 → Int32 → TT → Option (Int32 × TT)) (x1 : Int32) (x2 : Int32) (x3 : Int32) (x4 : Int32) (x5 : Int32) (h : TT) : Option (Int32 × TT) := k28 x1 x2 x3 x4 (x5 + (1 : Int32)) h
set_option maxRecDepth 20000 in
theorem j_X7_scrape_62 {p : Program} {l : Launch} {e : Env} {R : Room} {s : State} {m : MethodId} {args : Array Value} {below : List Frame} {meth : Method} {c : Code} {w : WK} (C : CX p R s m args meth c w RX7 cX7_scrape 7 (some .int) 1 26)    {k28 : Int32 → Int32 → Int32 → Int32 → Int32 → TT → Option (Int32 × TT)} (hk28 : ∀ (x1 : Int32) (x2 : Int32) (x3 : Int32) (x4 : Int32) (x5 : Int32)  (h : TT), GO p l e R s m args below meth c w 7 fIT (k28 x1 x2 x3 x4 x5 h) 28 [(0, .ref (w.2.1 (0))), (1, .int x1), (2, .int x2), (3, .int x3), (4, .int x4), (5, .int x5)] [] h) (x1 : Int32) (x2 : Int32) (x3 : Int32) (x4 : Int32) (x5 : Int32)  (h : TT) : GO p l e R s m args below meth c w 7 fIT (f_X7_scrape_62 k28 x1 x2 x3 x4 x5 h) 62 [(0, .ref (w.2.1 (0))), (1, .int x1), (2, .int x2), (3, .int x3), (4, .int x4), (5, .int x5)] [] h := by
  unfold f_X7_scrape_62
  refine g_iinc (pc := 62) C 5 rfl dX7_scrape_62 (ki_1 _) (by decide) (lv' := [(5, .int (x5 + (1 : Int32))), (0, .ref (w.2.1 (0))), (1, .int x1), (2, .int x2), (3, .int x3), (4, .int x4)]) rfl ?_
  refine g_goto (pc := 65) (tgt := 28) C dX7_scrape_65 (by decide) ?_
  refine g_lv (lv' := [(0, .ref (w.2.1 (0))), (1, .int x1), (2, .int x2), (3, .int x3), (4, .int x4), (5, .int (x5 + (1 : Int32)))]) [1, 2, 3, 4, 5, 0] rfl ?_
  exact hk28 x1 x2 x3 x4 (x5 + (1 : Int32)) h
def f_X7_scrape_28   : Nat → Int32 → Int32 → Int32 → Int32 → Int32 → TT → Option (Int32 × TT)
  | 0, _, _, _, _, _, _ => none
  | n + 1, x1, x2, x3, x4, x5, h => (if (9 : Int32) < x5 then nm (wr h 0 13 x4) fun h6 => some (x3, h6) else (f_X6_daysOf h x1 x2 x5).bind fun q7 => nm (q7.1) fun y8 => (if y8 ≤ x4 then f_X7_scrape_62 (f_X7_scrape_28 n) x1 x2 x3 x4 x5 q7.2 else f_X7_scrape_62 (f_X7_scrape_28 n) x1 x2 x5 y8 x5 q7.2))
set_option maxRecDepth 20000 in
theorem j_X7_scrape_28 {p : Program} {l : Launch} {e : Env} {R : Room} {s : State} {m : MethodId} {args : Array Value} {below : List Frame} {meth : Method} {c : Code} {w : WK} (C : CX p R s m args meth c w RX7 cX7_scrape 7 (some .int) 1 26)     : ∀ (n : Nat) (x1 : Int32) (x2 : Int32) (x3 : Int32) (x4 : Int32) (x5 : Int32) (h : TT), GO p l e R s m args below meth c w 7 fIT (f_X7_scrape_28 n x1 x2 x3 x4 x5 h) 28 [(0, .ref (w.2.1 (0))), (1, .int x1), (2, .int x2), (3, .int x3), (4, .int x4), (5, .int x5)] [] h := by
  intro n
  induction n with
  | zero =>
    intro x1 x2 x3 x4 x5 h
    exact g_none
  | succ n ih =>
    intro x1 x2 x3 x4 x5 h
    rw [f_X7_scrape_28]
    refine g_iload (pc := 28) C 5 rfl dX7_scrape_28 ?_
    refine g_bipush (pc := 30) (v := 9) C dX7_scrape_30 kb_9 ?_
    refine g_icmp_gt (pc := 32) (tgt := 68) C dX7_scrape_32 (by decide) (fun hc5 => ?_) (fun hc5 => ?_)
    · refine g_aload_n (pc := 68) C 0 rfl dX7_scrape_68 rfl ?_
      refine g_iload (pc := 69) C 4 rfl dX7_scrape_69 ?_
      refine g_putI (pc := 71) C so_RX7 13 fp_RX7_88 (se_RX7_13 _) rfl rfl (sl_RX7_13) dX7_scrape_71 ?_
      refine g_nm (fun h6 => ?_)
      refine g_iload_n (pc := 74) C 3 rfl dX7_scrape_74 rfl ?_
      exact g_iretT C dX7_scrape_75
    · refine g_aload_n (pc := 35) C 0 rfl dX7_scrape_35 rfl ?_
      refine g_get (pc := 36) C so_RX7 11 fl_RX7_77 (v := .ref (w.2.1 (137))) rfl dX7_scrape_36 ?_
      refine g_iload_n (pc := 39) C 1 rfl dX7_scrape_39 rfl ?_
      refine g_iload_n (pc := 40) C 2 rfl dX7_scrape_40 rfl ?_
      refine g_iload (pc := 41) C 5 rfl dX7_scrape_41 ?_
      refine g_callIT (pc := 43) (rest := []) (g_runV C mv_RX7_318 (fun x1 hx1 => m_X6_daysOf hx1) so_RX6 rfl (by decide) rfl rfl (Nat.le_of_ble_eq_true rfl) dX7_scrape_43) (fun q7 => ?_)
      refine g_nmi (fun y8 => ?_)
      refine g_istore (pc := 46) C dX7_scrape_46 (by decide) (lv' := [(6, .int y8), (0, .ref (w.2.1 (0))), (1, .int x1), (2, .int x2), (3, .int x3), (4, .int x4), (5, .int x5)]) rfl ?_
      refine g_iload (pc := 48) C 0 rfl dX7_scrape_48 ?_
      refine g_iload (pc := 50) C 5 rfl dX7_scrape_50 ?_
      refine g_icmp_le (pc := 52) (tgt := 62) C dX7_scrape_52 (by decide) (fun hc9 => ?_) (fun hc9 => ?_)
      · refine g_lv (lv' := [(0, .ref (w.2.1 (0))), (1, .int x1), (2, .int x2), (3, .int x3), (4, .int x4), (5, .int x5)]) [1, 2, 3, 4, 5, 6] rfl ?_
        exact j_X7_scrape_62 C ih x1 x2 x3 x4 x5 q7.2
      · refine g_iload (pc := 55) C 0 rfl dX7_scrape_55 ?_
        refine g_istore (pc := 57) C dX7_scrape_57 (by decide) (lv' := [(4, .int y8), (6, .int y8), (0, .ref (w.2.1 (0))), (1, .int x1), (2, .int x2), (3, .int x3), (5, .int x5)]) rfl ?_
        refine g_iload (pc := 59) C 6 rfl dX7_scrape_59 ?_
        refine g_istore_n (pc := 61) C dX7_scrape_61 rfl (by decide) (lv' := [(3, .int x5), (4, .int y8), (6, .int y8), (0, .ref (w.2.1 (0))), (1, .int x1), (2, .int x2), (5, .int x5)]) rfl ?_
        refine g_lv (lv' := [(0, .ref (w.2.1 (0))), (1, .int x1), (2, .int x2), (3, .int x5), (4, .int y8), (5, .int x5)]) [3, 4, 5, 0, 1, 6] rfl ?_
        exact j_X7_scrape_62 C ih x1 x2 x5 y8 x5 q7.2
def f_X7_scrape (h : TT) (x1 : Int32) (x2 : Int32) : Option (Int32 × TT) := (f_X7_isUpTo h x1 (9 : Int32)).bind fun r1 => (if r1 = 0 then some ((-1 : Int32), h) else (f_X7_isUpTo h x2 (9 : Int32)).bind fun r3 => (if r3 = 0 then some ((-1 : Int32), h) else f_X7_scrape_28 KF x1 x2 (0 : Int32) (-1 : Int32) (0 : Int32) h))
set_option maxRecDepth 20000 in
theorem m_X7_scrape {l : Launch} {w : WK} {h : TT} {x1 : Int32} {x2 : Int32} {x : (Int32 × TT)} (hx : f_X7_scrape h x1 x2 = some x)  : Met l yX7_scrape (Cond.code yX7_scrape cX7_scrape 7 (some .int) :: wsG) { frames := 1, cells := 0, slots := 0, locals := 26 } (PG w [.ref (w.2.1 (0)), .int x1, .int x2] h) (QG w (fIT x)) 0 0 (AA w) := by
  refine m_entry (own := RX7) (f := fIT) hx (by decide) rfl (Nat.le_of_ble_eq_true rfl) (fun p e s m args below meth c C => ?_)
  show GO p l e _ s m args below meth c w 7 fIT (f_X7_scrape h x1 x2) 0 [(0, .ref (w.2.1 (0))), (1, .int x1), (2, .int x2)] [] h
  unfold f_X7_scrape
  refine g_iload_n (pc := 0) C 1 rfl dX7_scrape_0 rfl ?_
  refine g_bipush (pc := 1) (v := 9) C dX7_scrape_1 kb_9 ?_
  refine g_callI (pc := 3) (rest := []) (g_runS C ms_RX7_186 (fun x1 hx1 => m_X7_isUpTo hx1) (by decide) rfl rfl (Nat.le_of_ble_eq_true rfl) dX7_scrape_3) (fun r1 => ?_)
  refine g_if_eq (pc := 6) (tgt := 18) C dX7_scrape_6 (by decide) (fun hc2 => ?_) (fun hc2 => ?_)
  · refine g_iconst (pc := 18) (v := -1) C dX7_scrape_18 kc_m1 ?_
    exact g_iretT C dX7_scrape_19
  · refine g_iload_n (pc := 9) C 2 rfl dX7_scrape_9 rfl ?_
    refine g_bipush (pc := 10) (v := 9) C dX7_scrape_10 kb_9 ?_
    refine g_callI (pc := 12) (rest := []) (g_runS C ms_RX7_186 (fun x1 hx1 => m_X7_isUpTo hx1) (by decide) rfl rfl (Nat.le_of_ble_eq_true rfl) dX7_scrape_12) (fun r3 => ?_)
    refine g_if_ne (pc := 15) (tgt := 20) C dX7_scrape_15 (by decide) (fun hc4 => ?_) (fun hc4 => ?_)
    · refine g_iconst (pc := 18) (v := -1) C dX7_scrape_18 kc_m1 ?_
      exact g_iretT C dX7_scrape_19
    · refine g_iconst (pc := 20) (v := 0) C dX7_scrape_20 kc_0 ?_
      refine g_istore_n (pc := 21) C dX7_scrape_21 rfl (by decide) (lv' := [(3, .int (0 : Int32)), (0, .ref (w.2.1 (0))), (1, .int x1), (2, .int x2)]) rfl ?_
      refine g_iconst (pc := 22) (v := -1) C dX7_scrape_22 kc_m1 ?_
      refine g_istore (pc := 23) C dX7_scrape_23 (by decide) (lv' := [(4, .int (-1 : Int32)), (3, .int (0 : Int32)), (0, .ref (w.2.1 (0))), (1, .int x1), (2, .int x2)]) rfl ?_
      refine g_iconst (pc := 25) (v := 0) C dX7_scrape_25 kc_0 ?_
      refine g_istore (pc := 26) C dX7_scrape_26 (by decide) (lv' := [(5, .int (0 : Int32)), (4, .int (-1 : Int32)), (3, .int (0 : Int32)), (0, .ref (w.2.1 (0))), (1, .int x1), (2, .int x2)]) rfl ?_
      refine g_lv (lv' := [(0, .ref (w.2.1 (0))), (1, .int x1), (2, .int x2), (3, .int (0 : Int32)), (4, .int (-1 : Int32)), (5, .int (0 : Int32))]) [3, 4, 5, 2, 1, 0] rfl ?_
      exact j_X7_scrape_28 C KF x1 x2 (0 : Int32) (-1 : Int32) (0 : Int32) h
/-- SnowHouse.asked()I -/
def f_X7_asked (h : TT)  : Option Int32 := some (h.1 0 13)
set_option maxRecDepth 20000 in
theorem m_X7_asked {l : Launch} {w : WK} {h : TT}  {x : Int32} (hx : f_X7_asked h  = some x)  : Met l yX7_asked (Cond.code yX7_asked cX7_asked 1 (some .int) :: wsG) { frames := 0, cells := 0, slots := 0, locals := 0 } (PG w [.ref (w.2.1 (0))] h) (QG w ((fI h) x)) 0 0 (AA w) := by
  refine m_entry (own := RX7) (f := (fI h)) hx (by decide) rfl (Nat.le_of_ble_eq_true rfl) (fun p e s m args below meth c C => ?_)
  show GO p l e _ s m args below meth c w 1 (fI h) (f_X7_asked h ) 0 [(0, .ref (w.2.1 (0)))] [] h
  unfold f_X7_asked
  refine g_aload_n (pc := 0) C 0 rfl dX7_asked_0 rfl ?_
  refine g_get (pc := 1) C so_RX7 13 fl_RX7_88 (v := .int (h.1 0 13)) rfl dX7_asked_1 ?_
  exact g_iret C dX7_asked_4
/-- SnowHouse.upper()J -/
def f_X7_upper (h : TT)  : Option Int64 := some (h.2 0 14)
set_option maxRecDepth 20000 in
theorem m_X7_upper {l : Launch} {w : WK} {h : TT}  {x : Int64} (hx : f_X7_upper h  = some x)  : Met l yX7_upper (Cond.code yX7_upper cX7_upper 1 (some .long) :: wsG) { frames := 0, cells := 0, slots := 0, locals := 0 } (PG w [.ref (w.2.1 (0))] h) (QG w ((fJ h) x)) 0 0 (AA w) := by
  refine m_entry (own := RX7) (f := (fJ h)) hx (by decide) rfl (Nat.le_of_ble_eq_true rfl) (fun p e s m args below meth c C => ?_)
  show GO p l e _ s m args below meth c w 1 (fJ h) (f_X7_upper h ) 0 [(0, .ref (w.2.1 (0)))] [] h
  unfold f_X7_upper
  refine g_aload_n (pc := 0) C 0 rfl dX7_upper_0 rfl ?_
  refine g_get (pc := 1) C so_RX7 14 fl_RX7_92 (v := .long (h.2 0 14)) rfl dX7_upper_1 ?_
  exact g_lret C dX7_upper_4
/-- SnowHouse.lower()J -/
def f_X7_lower (h : TT)  : Option Int64 := some (h.2 0 15)
set_option maxRecDepth 20000 in
theorem m_X7_lower {l : Launch} {w : WK} {h : TT}  {x : Int64} (hx : f_X7_lower h  = some x)  : Met l yX7_lower (Cond.code yX7_lower cX7_lower 1 (some .long) :: wsG) { frames := 0, cells := 0, slots := 0, locals := 0 } (PG w [.ref (w.2.1 (0))] h) (QG w ((fJ h) x)) 0 0 (AA w) := by
  refine m_entry (own := RX7) (f := (fJ h)) hx (by decide) rfl (Nat.le_of_ble_eq_true rfl) (fun p e s m args below meth c C => ?_)
  show GO p l e _ s m args below meth c w 1 (fJ h) (f_X7_lower h ) 0 [(0, .ref (w.2.1 (0)))] [] h
  unfold f_X7_lower
  refine g_aload_n (pc := 0) C 0 rfl dX7_lower_0 rfl ?_
  refine g_get (pc := 1) C so_RX7 15 fl_RX7_96 (v := .long (h.2 0 15)) rfl dX7_lower_1 ?_
  exact g_lret C dX7_lower_4
/-- SnowHouse.snowsThere()I -/
def f_X7_snowsThere_24 (h : TT)  (k4 : Int32 → Int32 → Option Int32) (x1 : Int32) (x2 : Int32) : Option Int32 := k4 x1 (x2 + (1 : Int32))
set_option maxRecDepth 20000 in
theorem j_X7_snowsThere_24 {p : Program} {l : Launch} {e : Env} {R : Room} {s : State} {m : MethodId} {args : Array Value} {below : List Frame} {meth : Method} {c : Code} {w : WK} (C : CX p R s m args meth c w RX7 cX7_snowsThere 3 (some .int) 0 0) (h : TT)   {k4 : Int32 → Int32 → Option Int32} (hk4 : ∀ (x1 : Int32) (x2 : Int32) , GO p l e R s m args below meth c w 3 (fI h) (k4 x1 x2) 4 [(0, .ref (w.2.1 (0))), (1, .int x1), (2, .int x2)] [] h) (x1 : Int32) (x2 : Int32)  : GO p l e R s m args below meth c w 3 (fI h) (f_X7_snowsThere_24 h k4 x1 x2) 24 [(0, .ref (w.2.1 (0))), (1, .int x1), (2, .int x2)] [] h := by
  unfold f_X7_snowsThere_24
  refine g_iinc (pc := 24) C 2 rfl dX7_snowsThere_24 (ki_1 _) (by decide) (lv' := [(2, .int (x2 + (1 : Int32))), (0, .ref (w.2.1 (0))), (1, .int x1)]) rfl ?_
  refine g_goto (pc := 27) (tgt := 4) C dX7_snowsThere_27 (by decide) ?_
  refine g_lv (lv' := [(0, .ref (w.2.1 (0))), (1, .int x1), (2, .int (x2 + (1 : Int32)))]) [1, 2, 0] rfl ?_
  exact hk4 x1 (x2 + (1 : Int32))
def f_X7_snowsThere_4 (h : TT)   : Nat → Int32 → Int32 → Option Int32
  | 0, _, _ => none
  | n + 1, x1, x2 => (if (4 : Int32) ≤ x2 then some x1 else if inb x2 4 = true then (if (h.1 (16 + 2 * x2.toNatClampNeg) 0) = 0 then f_X7_snowsThere_24 h (f_X7_snowsThere_4 h n) x1 x2 else f_X7_snowsThere_24 h (f_X7_snowsThere_4 h n) (x1 + (1 : Int32)) x2) else none)
set_option maxRecDepth 20000 in
theorem j_X7_snowsThere_4 {p : Program} {l : Launch} {e : Env} {R : Room} {s : State} {m : MethodId} {args : Array Value} {below : List Frame} {meth : Method} {c : Code} {w : WK} (C : CX p R s m args meth c w RX7 cX7_snowsThere 3 (some .int) 0 0) (h : TT)    : ∀ (n : Nat) (x1 : Int32) (x2 : Int32), GO p l e R s m args below meth c w 3 (fI h) (f_X7_snowsThere_4 h n x1 x2) 4 [(0, .ref (w.2.1 (0))), (1, .int x1), (2, .int x2)] [] h := by
  intro n
  induction n with
  | zero =>
    intro x1 x2
    exact g_none
  | succ n ih =>
    intro x1 x2
    rw [f_X7_snowsThere_4]
    refine g_iload_n (pc := 4) C 2 rfl dX7_snowsThere_4 rfl ?_
    refine g_iconst (pc := 5) (v := 4) C dX7_snowsThere_5 kc_4 ?_
    refine g_icmp_ge (pc := 6) (tgt := 30) C dX7_snowsThere_6 (by decide) (fun hc1 => ?_) (fun hc1 => ?_)
    · refine g_iload_n (pc := 30) C 1 rfl dX7_snowsThere_30 rfl ?_
      exact g_iret C dX7_snowsThere_31
    · refine g_aload_n (pc := 9) C 0 rfl dX7_snowsThere_9 rfl ?_
      refine g_get (pc := 10) C so_RX7 4 fl_RX7_34 (v := .ref (w.2.1 (15))) rfl dX7_snowsThere_10 ?_
      refine g_iload_n (pc := 13) C 2 rfl dX7_snowsThere_13 rfl ?_
      refine g_aald (pc := 14) (cA := 0) C sr_snows rfl rfl dX7_snowsThere_14 (fun hb2 => ?_)
      refine g_get (pc := 15) C (so_RX5 (isSn hb2)) 0 fl_RX7_157 (v := .int (h.1 (16 + 2 * x2.toNatClampNeg) 0)) rfl dX7_snowsThere_15 ?_
      refine g_if_eq (pc := 18) (tgt := 24) C dX7_snowsThere_18 (by decide) (fun hc3 => ?_) (fun hc3 => ?_)
      · exact j_X7_snowsThere_24 C h ih x1 x2
      · refine g_iinc (pc := 21) C 1 rfl dX7_snowsThere_21 (ki_1 _) (by decide) (lv' := [(1, .int (x1 + (1 : Int32))), (0, .ref (w.2.1 (0))), (2, .int x2)]) rfl ?_
        refine g_lv (lv' := [(0, .ref (w.2.1 (0))), (1, .int (x1 + (1 : Int32))), (2, .int x2)]) [1, 0, 2] rfl ?_
        exact j_X7_snowsThere_24 C h ih (x1 + (1 : Int32)) x2
def f_X7_snowsThere (h : TT)  : Option Int32 := f_X7_snowsThere_4 h KF (0 : Int32) (0 : Int32)
set_option maxRecDepth 20000 in
theorem m_X7_snowsThere {l : Launch} {w : WK} {h : TT}  {x : Int32} (hx : f_X7_snowsThere h  = some x)  : Met l yX7_snowsThere (Cond.code yX7_snowsThere cX7_snowsThere 3 (some .int) :: wsG) { frames := 0, cells := 0, slots := 0, locals := 0 } (PG w [.ref (w.2.1 (0))] h) (QG w ((fI h) x)) 0 0 (AA w) := by
  refine m_entry (own := RX7) (f := (fI h)) hx (by decide) rfl (Nat.le_of_ble_eq_true rfl) (fun p e s m args below meth c C => ?_)
  show GO p l e _ s m args below meth c w 3 (fI h) (f_X7_snowsThere h ) 0 [(0, .ref (w.2.1 (0)))] [] h
  unfold f_X7_snowsThere
  refine g_iconst (pc := 0) (v := 0) C dX7_snowsThere_0 kc_0 ?_
  refine g_istore_n (pc := 1) C dX7_snowsThere_1 rfl (by decide) (lv' := [(1, .int (0 : Int32)), (0, .ref (w.2.1 (0)))]) rfl ?_
  refine g_iconst (pc := 2) (v := 0) C dX7_snowsThere_2 kc_0 ?_
  refine g_istore_n (pc := 3) C dX7_snowsThere_3 rfl (by decide) (lv' := [(2, .int (0 : Int32)), (1, .int (0 : Int32)), (0, .ref (w.2.1 (0)))]) rfl ?_
  refine g_lv (lv' := [(0, .ref (w.2.1 (0))), (1, .int (0 : Int32)), (2, .int (0 : Int32))]) [2, 1, 0] rfl ?_
  exact j_X7_snowsThere_4 C h KF (0 : Int32) (0 : Int32)
/-- SnowHouse$Build.standingFirsts()I -/
def f_X0_standingFirsts_44 (h : TT) (o0 : Nat)  (x1 : Int32) : Option Int32 := some x1
set_option maxRecDepth 20000 in
theorem j_X0_standingFirsts_44 {p : Program} {l : Launch} {e : Env} {R : Room} {s : State} {m : MethodId} {args : Array Value} {below : List Frame} {meth : Method} {c : Code} {w : WK} (C : CX p R s m args meth c w RX0 cX0_standingFirsts 3 (some .int) 0 0) (h : TT) {o0 : Nat} (ho0 : IsB o0)  (x1 : Int32)  : GO p l e R s m args below meth c w 3 (fI h) (f_X0_standingFirsts_44 h o0 x1) 44 [(1, .int x1)] [] h := by
  unfold f_X0_standingFirsts_44
  refine g_iload_n (pc := 44) C 0 rfl dX0_standingFirsts_44 rfl ?_
  exact g_iret C dX0_standingFirsts_45
def f_X0_standingFirsts_38 (h : TT) (o0 : Nat) (k4 : Int32 → Int32 → Option Int32) (x1 : Int32) (x2 : Int32) : Option Int32 := k4 x1 (x2 + (1 : Int32))
set_option maxRecDepth 20000 in
theorem j_X0_standingFirsts_38 {p : Program} {l : Launch} {e : Env} {R : Room} {s : State} {m : MethodId} {args : Array Value} {below : List Frame} {meth : Method} {c : Code} {w : WK} (C : CX p R s m args meth c w RX0 cX0_standingFirsts 3 (some .int) 0 0) (h : TT) {o0 : Nat} (ho0 : IsB o0) {k4 : Int32 → Int32 → Option Int32} (hk4 : ∀ (x1 : Int32) (x2 : Int32) , GO p l e R s m args below meth c w 3 (fI h) (k4 x1 x2) 4 [(0, .ref (w.2.1 (o0))), (1, .int x1), (2, .int x2)] [] h) (x1 : Int32) (x2 : Int32)  : GO p l e R s m args below meth c w 3 (fI h) (f_X0_standingFirsts_38 h o0 k4 x1 x2) 38 [(0, .ref (w.2.1 (o0))), (1, .int x1), (2, .int x2)] [] h := by
  unfold f_X0_standingFirsts_38
  refine g_iinc (pc := 38) C 2 rfl dX0_standingFirsts_38 (ki_1 _) (by decide) (lv' := [(2, .int (x2 + (1 : Int32))), (0, .ref (w.2.1 (o0))), (1, .int x1)]) rfl ?_
  refine g_goto (pc := 41) (tgt := 4) C dX0_standingFirsts_41 (by decide) ?_
  refine g_lv (lv' := [(0, .ref (w.2.1 (o0))), (1, .int x1), (2, .int (x2 + (1 : Int32)))]) [1, 2, 0] rfl ?_
  exact hk4 x1 (x2 + (1 : Int32))
def f_X0_standingFirsts_4 (h : TT) (o0 : Nat)  : Nat → Int32 → Int32 → Option Int32
  | 0, _, _ => none
  | n + 1, x1, x2 => (if (h.1 o0 4) ≤ x2 then f_X0_standingFirsts_44 h o0 x1 else if inb (0 : Int32) 8 = true then (if (h.1 (o0 + 3 + 2) (0 : Int32).toNatClampNeg) ≤ x2 then f_X0_standingFirsts_44 h o0 x1 else if inb x2 60 = true then (if (h.1 (o0 + 7) x2.toNatClampNeg) = (2 : Int32) then f_X0_standingFirsts_38 h o0 (f_X0_standingFirsts_4 h o0 n) x1 x2 else f_X0_standingFirsts_38 h o0 (f_X0_standingFirsts_4 h o0 n) (x1 + (1 : Int32)) x2) else none) else none)
set_option maxRecDepth 20000 in
theorem j_X0_standingFirsts_4 {p : Program} {l : Launch} {e : Env} {R : Room} {s : State} {m : MethodId} {args : Array Value} {below : List Frame} {meth : Method} {c : Code} {w : WK} (C : CX p R s m args meth c w RX0 cX0_standingFirsts 3 (some .int) 0 0) (h : TT) {o0 : Nat} (ho0 : IsB o0)  : ∀ (n : Nat) (x1 : Int32) (x2 : Int32), GO p l e R s m args below meth c w 3 (fI h) (f_X0_standingFirsts_4 h o0 n x1 x2) 4 [(0, .ref (w.2.1 (o0))), (1, .int x1), (2, .int x2)] [] h := by
  intro n
  induction n with
  | zero =>
    intro x1 x2
    exact g_none
  | succ n ih =>
    intro x1 x2
    rw [f_X0_standingFirsts_4]
    refine g_iload_n (pc := 4) C 2 rfl dX0_standingFirsts_4 rfl ?_
    refine g_aload_n (pc := 5) C 0 rfl dX0_standingFirsts_5 rfl ?_
    refine g_get (pc := 6) C (so_RX0 ho0) 4 fl_RX0_80 (v := .int (h.1 o0 4)) rfl dX0_standingFirsts_6 ?_
    refine g_icmp_ge (pc := 9) (tgt := 44) C dX0_standingFirsts_9 (by decide) (fun hc1 => ?_) (fun hc1 => ?_)
    · refine g_lv (lv' := [(1, .int x1)]) [1] rfl ?_
      exact j_X0_standingFirsts_44 C h ho0 x1
    · refine g_iload_n (pc := 12) C 2 rfl dX0_standingFirsts_12 rfl ?_
      refine g_aload_n (pc := 13) C 0 rfl dX0_standingFirsts_13 rfl ?_
      refine g_get (pc := 14) C (so_RX0 ho0) 2 fl_RX0_21 (v := .ref (w.2.1 (o0 + 3))) rfl dX0_standingFirsts_14 ?_
      refine g_get (pc := 17) C (so_RX3 (isP_B ho0)) 5 fl_RX0_101 (v := .ref (w.2.1 (o0 + 3 + 2))) rfl dX0_standingFirsts_17 ?_
      refine g_iconst (pc := 20) (v := 0) C dX0_standingFirsts_20 kc_0 ?_
      refine g_iald (pc := 21) C (siP2 (isP_B ho0)) dX0_standingFirsts_21 (fun hb2 => ?_)
      refine g_icmp_ge (pc := 22) (tgt := 44) C dX0_standingFirsts_22 (by decide) (fun hc3 => ?_) (fun hc3 => ?_)
      · refine g_lv (lv' := [(1, .int x1)]) [1] rfl ?_
        exact j_X0_standingFirsts_44 C h ho0 x1
      · refine g_aload_n (pc := 25) C 0 rfl dX0_standingFirsts_25 rfl ?_
        refine g_get (pc := 26) C (so_RX0 ho0) 7 fl_RX0_29 (v := .ref (w.2.1 (o0 + 7))) rfl dX0_standingFirsts_26 ?_
        refine g_iload_n (pc := 29) C 2 rfl dX0_standingFirsts_29 rfl ?_
        refine g_iald (pc := 30) C (siB7 ho0) dX0_standingFirsts_30 (fun hb4 => ?_)
        refine g_iconst (pc := 31) (v := 2) C dX0_standingFirsts_31 kc_2 ?_
        refine g_icmp_eq (pc := 32) (tgt := 38) C dX0_standingFirsts_32 (by decide) (fun hc5 => ?_) (fun hc5 => ?_)
        · exact j_X0_standingFirsts_38 C h ho0 ih x1 x2
        · refine g_iinc (pc := 35) C 1 rfl dX0_standingFirsts_35 (ki_1 _) (by decide) (lv' := [(1, .int (x1 + (1 : Int32))), (0, .ref (w.2.1 (o0))), (2, .int x2)]) rfl ?_
          refine g_lv (lv' := [(0, .ref (w.2.1 (o0))), (1, .int (x1 + (1 : Int32))), (2, .int x2)]) [1, 0, 2] rfl ?_
          exact j_X0_standingFirsts_38 C h ho0 ih (x1 + (1 : Int32)) x2
def f_X0_standingFirsts (h : TT) (o0 : Nat) : Option Int32 := f_X0_standingFirsts_4 h o0 KF (0 : Int32) (0 : Int32)
set_option maxRecDepth 20000 in
theorem m_X0_standingFirsts {l : Launch} {w : WK} {h : TT} {o0 : Nat} {x : Int32} (hx : f_X0_standingFirsts h o0 = some x) (ho0 : IsB o0) : Met l yX0_standingFirsts (Cond.code yX0_standingFirsts cX0_standingFirsts 3 (some .int) :: wsG) { frames := 0, cells := 0, slots := 0, locals := 0 } (PG w [.ref (w.2.1 (o0))] h) (QG w ((fI h) x)) 0 0 (AA w) := by
  refine m_entry (own := RX0) (f := (fI h)) hx (by decide) rfl (Nat.le_of_ble_eq_true rfl) (fun p e s m args below meth c C => ?_)
  show GO p l e _ s m args below meth c w 3 (fI h) (f_X0_standingFirsts h o0) 0 [(0, .ref (w.2.1 (o0)))] [] h
  unfold f_X0_standingFirsts
  refine g_iconst (pc := 0) (v := 0) C dX0_standingFirsts_0 kc_0 ?_
  refine g_istore_n (pc := 1) C dX0_standingFirsts_1 rfl (by decide) (lv' := [(1, .int (0 : Int32)), (0, .ref (w.2.1 (o0)))]) rfl ?_
  refine g_iconst (pc := 2) (v := 0) C dX0_standingFirsts_2 kc_0 ?_
  refine g_istore_n (pc := 3) C dX0_standingFirsts_3 rfl (by decide) (lv' := [(2, .int (0 : Int32)), (1, .int (0 : Int32)), (0, .ref (w.2.1 (o0)))]) rfl ?_
  refine g_lv (lv' := [(0, .ref (w.2.1 (o0))), (1, .int (0 : Int32)), (2, .int (0 : Int32))]) [2, 1, 0] rfl ?_
  exact j_X0_standingFirsts_4 C h ho0 KF (0 : Int32) (0 : Int32)
/-- SnowHouse.kept()I -/
def f_X7_kept_24 (h : TT)  (k4 : Int32 → Int32 → Option Int32) (x1 : Int32) (x2 : Int32) : Option Int32 := k4 x1 (x2 + (1 : Int32))
set_option maxRecDepth 20000 in
theorem j_X7_kept_24 {p : Program} {l : Launch} {e : Env} {R : Room} {s : State} {m : MethodId} {args : Array Value} {below : List Frame} {meth : Method} {c : Code} {w : WK} (C : CX p R s m args meth c w RX7 cX7_kept 3 (some .int) 0 0) (h : TT)   {k4 : Int32 → Int32 → Option Int32} (hk4 : ∀ (x1 : Int32) (x2 : Int32) , GO p l e R s m args below meth c w 3 (fI h) (k4 x1 x2) 4 [(0, .ref (w.2.1 (0))), (1, .int x1), (2, .int x2)] [] h) (x1 : Int32) (x2 : Int32)  : GO p l e R s m args below meth c w 3 (fI h) (f_X7_kept_24 h k4 x1 x2) 24 [(0, .ref (w.2.1 (0))), (1, .int x1), (2, .int x2)] [] h := by
  unfold f_X7_kept_24
  refine g_iinc (pc := 24) C 2 rfl dX7_kept_24 (ki_1 _) (by decide) (lv' := [(2, .int (x2 + (1 : Int32))), (0, .ref (w.2.1 (0))), (1, .int x1)]) rfl ?_
  refine g_goto (pc := 27) (tgt := 4) C dX7_kept_27 (by decide) ?_
  refine g_lv (lv' := [(0, .ref (w.2.1 (0))), (1, .int x1), (2, .int (x2 + (1 : Int32)))]) [1, 2, 0] rfl ?_
  exact hk4 x1 (x2 + (1 : Int32))
def f_X7_kept_4 (h : TT)   : Nat → Int32 → Int32 → Option Int32
  | 0, _, _ => none
  | n + 1, x1, x2 => (if (3 : Int32) ≤ x2 then some x1 else if inb x2 3 = true then (if (h.1 (59 + 17 * x2.toNatClampNeg) 0) = 0 then f_X7_kept_24 h (f_X7_kept_4 h n) x1 x2 else f_X7_kept_24 h (f_X7_kept_4 h n) (x1 + (1 : Int32)) x2) else none)
set_option maxRecDepth 20000 in
theorem j_X7_kept_4 {p : Program} {l : Launch} {e : Env} {R : Room} {s : State} {m : MethodId} {args : Array Value} {below : List Frame} {meth : Method} {c : Code} {w : WK} (C : CX p R s m args meth c w RX7 cX7_kept 3 (some .int) 0 0) (h : TT)    : ∀ (n : Nat) (x1 : Int32) (x2 : Int32), GO p l e R s m args below meth c w 3 (fI h) (f_X7_kept_4 h n x1 x2) 4 [(0, .ref (w.2.1 (0))), (1, .int x1), (2, .int x2)] [] h := by
  intro n
  induction n with
  | zero =>
    intro x1 x2
    exact g_none
  | succ n ih =>
    intro x1 x2
    rw [f_X7_kept_4]
    refine g_iload_n (pc := 4) C 2 rfl dX7_kept_4 rfl ?_
    refine g_iconst (pc := 5) (v := 3) C dX7_kept_5 kc_3 ?_
    refine g_icmp_ge (pc := 6) (tgt := 30) C dX7_kept_6 (by decide) (fun hc1 => ?_) (fun hc1 => ?_)
    · refine g_iload_n (pc := 30) C 1 rfl dX7_kept_30 rfl ?_
      exact g_iret C dX7_kept_31
    · refine g_aload_n (pc := 9) C 0 rfl dX7_kept_9 rfl ?_
      refine g_get (pc := 10) C so_RX7 7 fl_RX7_53 (v := .ref (w.2.1 (58))) rfl dX7_kept_10 ?_
      refine g_iload_n (pc := 13) C 2 rfl dX7_kept_13 rfl ?_
      refine g_aald (pc := 14) (cA := 0) C sr_keeps rfl rfl dX7_kept_14 (fun hb2 => ?_)
      refine g_get (pc := 15) C (so_RX0 (isKe hb2)) 0 fl_RX7_189 (v := .int (h.1 (59 + 17 * x2.toNatClampNeg) 0)) rfl dX7_kept_15 ?_
      refine g_if_eq (pc := 18) (tgt := 24) C dX7_kept_18 (by decide) (fun hc3 => ?_) (fun hc3 => ?_)
      · exact j_X7_kept_24 C h ih x1 x2
      · refine g_iinc (pc := 21) C 1 rfl dX7_kept_21 (ki_1 _) (by decide) (lv' := [(1, .int (x1 + (1 : Int32))), (0, .ref (w.2.1 (0))), (2, .int x2)]) rfl ?_
        refine g_lv (lv' := [(0, .ref (w.2.1 (0))), (1, .int (x1 + (1 : Int32))), (2, .int x2)]) [1, 0, 2] rfl ?_
        exact j_X7_kept_24 C h ih (x1 + (1 : Int32)) x2
def f_X7_kept (h : TT)  : Option Int32 := f_X7_kept_4 h KF (0 : Int32) (0 : Int32)
set_option maxRecDepth 20000 in
theorem m_X7_kept {l : Launch} {w : WK} {h : TT}  {x : Int32} (hx : f_X7_kept h  = some x)  : Met l yX7_kept (Cond.code yX7_kept cX7_kept 3 (some .int) :: wsG) { frames := 0, cells := 0, slots := 0, locals := 0 } (PG w [.ref (w.2.1 (0))] h) (QG w ((fI h) x)) 0 0 (AA w) := by
  refine m_entry (own := RX7) (f := (fI h)) hx (by decide) rfl (Nat.le_of_ble_eq_true rfl) (fun p e s m args below meth c C => ?_)
  show GO p l e _ s m args below meth c w 3 (fI h) (f_X7_kept h ) 0 [(0, .ref (w.2.1 (0)))] [] h
  unfold f_X7_kept
  refine g_iconst (pc := 0) (v := 0) C dX7_kept_0 kc_0 ?_
  refine g_istore_n (pc := 1) C dX7_kept_1 rfl (by decide) (lv' := [(1, .int (0 : Int32)), (0, .ref (w.2.1 (0)))]) rfl ?_
  refine g_iconst (pc := 2) (v := 0) C dX7_kept_2 kc_0 ?_
  refine g_istore_n (pc := 3) C dX7_kept_3 rfl (by decide) (lv' := [(2, .int (0 : Int32)), (1, .int (0 : Int32)), (0, .ref (w.2.1 (0)))]) rfl ?_
  refine g_lv (lv' := [(0, .ref (w.2.1 (0))), (1, .int (0 : Int32)), (2, .int (0 : Int32))]) [2, 1, 0] rfl ?_
  exact j_X7_kept_4 C h KF (0 : Int32) (0 : Int32)
/-- SnowHouse.sizesThere([I)I -/
def f_X7_sizesThere_19 (h : TT) (o0 n0 : Nat) (k4 : Int32 → Int32 → Option Int32) (x1 : Int32) (x2 : Int32) : Option Int32 := k4 x1 (x2 + (1 : Int32))
set_option maxRecDepth 20000 in
theorem j_X7_sizesThere_19 {p : Program} {l : Launch} {e : Env} {R : Room} {s : State} {m : MethodId} {args : Array Value} {below : List Frame} {meth : Method} {c : Code} {w : WK} (C : CX p R s m args meth c w RX7 cX7_sizesThere 3 (some .int) 0 0) (h : TT) {o0 n0 : Nat} (ho0 : SI w o0 n0) {k4 : Int32 → Int32 → Option Int32} (hk4 : ∀ (x1 : Int32) (x2 : Int32) , GO p l e R s m args below meth c w 3 (fI h) (k4 x1 x2) 4 [(0, .ref (w.2.1 (o0))), (1, .int x1), (2, .int x2)] [] h) (x1 : Int32) (x2 : Int32)  : GO p l e R s m args below meth c w 3 (fI h) (f_X7_sizesThere_19 h o0 n0 k4 x1 x2) 19 [(0, .ref (w.2.1 (o0))), (1, .int x1), (2, .int x2)] [] h := by
  unfold f_X7_sizesThere_19
  refine g_iinc (pc := 19) C 2 rfl dX7_sizesThere_19 (ki_1 _) (by decide) (lv' := [(2, .int (x2 + (1 : Int32))), (0, .ref (w.2.1 (o0))), (1, .int x1)]) rfl ?_
  refine g_goto (pc := 22) (tgt := 4) C dX7_sizesThere_22 (by decide) ?_
  refine g_lv (lv' := [(0, .ref (w.2.1 (o0))), (1, .int x1), (2, .int (x2 + (1 : Int32)))]) [1, 2, 0] rfl ?_
  exact hk4 x1 (x2 + (1 : Int32))
def f_X7_sizesThere_4 (h : TT) (o0 n0 : Nat)  : Nat → Int32 → Int32 → Option Int32
  | 0, _, _ => none
  | n + 1, x1, x2 => (if (nI n0) ≤ x2 then some x1 else if inb x2 n0 = true then (if (h.1 o0 x2.toNatClampNeg) < 0 then f_X7_sizesThere_19 h o0 n0 (f_X7_sizesThere_4 h o0 n0 n) x1 x2 else f_X7_sizesThere_19 h o0 n0 (f_X7_sizesThere_4 h o0 n0 n) (x1 + (1 : Int32)) x2) else none)
set_option maxRecDepth 20000 in
theorem j_X7_sizesThere_4 {p : Program} {l : Launch} {e : Env} {R : Room} {s : State} {m : MethodId} {args : Array Value} {below : List Frame} {meth : Method} {c : Code} {w : WK} (C : CX p R s m args meth c w RX7 cX7_sizesThere 3 (some .int) 0 0) (h : TT) {o0 n0 : Nat} (ho0 : SI w o0 n0)  : ∀ (n : Nat) (x1 : Int32) (x2 : Int32), GO p l e R s m args below meth c w 3 (fI h) (f_X7_sizesThere_4 h o0 n0 n x1 x2) 4 [(0, .ref (w.2.1 (o0))), (1, .int x1), (2, .int x2)] [] h := by
  intro n
  induction n with
  | zero =>
    intro x1 x2
    exact g_none
  | succ n ih =>
    intro x1 x2
    rw [f_X7_sizesThere_4]
    refine g_iload_n (pc := 4) C 2 rfl dX7_sizesThere_4 rfl ?_
    refine g_aload_n (pc := 5) C 0 rfl dX7_sizesThere_5 rfl ?_
    refine g_ialen (pc := 6) C ho0 dX7_sizesThere_6 ?_
    refine g_icmp_ge (pc := 7) (tgt := 25) C dX7_sizesThere_7 (by decide) (fun hc1 => ?_) (fun hc1 => ?_)
    · refine g_iload_n (pc := 25) C 1 rfl dX7_sizesThere_25 rfl ?_
      exact g_iret C dX7_sizesThere_26
    · refine g_aload_n (pc := 10) C 0 rfl dX7_sizesThere_10 rfl ?_
      refine g_iload_n (pc := 11) C 2 rfl dX7_sizesThere_11 rfl ?_
      refine g_iald (pc := 12) C ho0 dX7_sizesThere_12 (fun hb2 => ?_)
      refine g_if_lt (pc := 13) (tgt := 19) C dX7_sizesThere_13 (by decide) (fun hc3 => ?_) (fun hc3 => ?_)
      · exact j_X7_sizesThere_19 C h ho0 ih x1 x2
      · refine g_iinc (pc := 16) C 1 rfl dX7_sizesThere_16 (ki_1 _) (by decide) (lv' := [(1, .int (x1 + (1 : Int32))), (0, .ref (w.2.1 (o0))), (2, .int x2)]) rfl ?_
        refine g_lv (lv' := [(0, .ref (w.2.1 (o0))), (1, .int (x1 + (1 : Int32))), (2, .int x2)]) [1, 0, 2] rfl ?_
        exact j_X7_sizesThere_19 C h ho0 ih (x1 + (1 : Int32)) x2
def f_X7_sizesThere (h : TT) (o0 n0 : Nat) : Option Int32 := f_X7_sizesThere_4 h o0 n0 KF (0 : Int32) (0 : Int32)
set_option maxRecDepth 20000 in
theorem m_X7_sizesThere {l : Launch} {w : WK} {h : TT} {o0 n0 : Nat} {x : Int32} (hx : f_X7_sizesThere h o0 n0 = some x) (ho0 : SI w o0 n0) : Met l yX7_sizesThere (Cond.code yX7_sizesThere cX7_sizesThere 3 (some .int) :: wsG) { frames := 0, cells := 0, slots := 0, locals := 0 } (PG w [.ref (w.2.1 (o0))] h) (QG w ((fI h) x)) 0 0 (AA w) := by
  refine m_entry (own := RX7) (f := (fI h)) hx (by decide) rfl (Nat.le_of_ble_eq_true rfl) (fun p e s m args below meth c C => ?_)
  show GO p l e _ s m args below meth c w 3 (fI h) (f_X7_sizesThere h o0 n0) 0 [(0, .ref (w.2.1 (o0)))] [] h
  unfold f_X7_sizesThere
  refine g_iconst (pc := 0) (v := 0) C dX7_sizesThere_0 kc_0 ?_
  refine g_istore_n (pc := 1) C dX7_sizesThere_1 rfl (by decide) (lv' := [(1, .int (0 : Int32)), (0, .ref (w.2.1 (o0)))]) rfl ?_
  refine g_iconst (pc := 2) (v := 0) C dX7_sizesThere_2 kc_0 ?_
  refine g_istore_n (pc := 3) C dX7_sizesThere_3 rfl (by decide) (lv' := [(2, .int (0 : Int32)), (1, .int (0 : Int32)), (0, .ref (w.2.1 (o0)))]) rfl ?_
  refine g_lv (lv' := [(0, .ref (w.2.1 (o0))), (1, .int (0 : Int32)), (2, .int (0 : Int32))]) [2, 1, 0] rfl ?_
  exact j_X7_sizesThere_4 C h ho0 KF (0 : Int32) (0 : Int32)
/-- SnowHouse.counted(I)I -/
def f_X7_counted (h : TT) (x1 : Int32) : Option Int32 := (if x1 = (0 : Int32) then (f_X7_snowsThere h).bind fun r2 => some r2 else (if x1 = (1 : Int32) then (f_X7_plansThere h).bind fun r4 => some r4 else (if x1 = (2 : Int32) then some (h.1 41 4) else (if x1 = (3 : Int32) then some (h.1 41 5) else (if x1 = (4 : Int32) then (f_X0_standingFirsts h 41).bind fun r8 => some r8 else (if x1 = (5 : Int32) then (f_X7_kept h).bind fun r10 => some r10 else (if x1 = (6 : Int32) then (f_X7_sizesThere h 8 6).bind fun r12 => some r12 else (f_X7_sizesThere h 14 4).bind fun r13 => some r13)))))))
set_option maxRecDepth 20000 in
theorem m_X7_counted {l : Launch} {w : WK} {h : TT} {x1 : Int32} {x : Int32} (hx : f_X7_counted h x1 = some x)  : Met l yX7_counted (Cond.code yX7_counted cX7_counted 2 (some .int) :: wsG) { frames := 1, cells := 0, slots := 0, locals := 22 } (PG w [.ref (w.2.1 (0)), .int x1] h) (QG w ((fI h) x)) 0 0 (AA w) := by
  refine m_entry (own := RX7) (f := (fI h)) hx (by decide) rfl (Nat.le_of_ble_eq_true rfl) (fun p e s m args below meth c C => ?_)
  show GO p l e _ s m args below meth c w 2 (fI h) (f_X7_counted h x1) 0 [(0, .ref (w.2.1 (0))), (1, .int x1)] [] h
  unfold f_X7_counted
  refine g_iload_n (pc := 0) C 1 rfl dX7_counted_0 rfl ?_
  refine g_ite (fun hc1 => ?_) (fun hc1 => ?_)
  · refine g_tabIn (pc := 1) (tgt := 44) C dX7_counted_1 hc1 (by decide) (by decide) rfl (by decide) ?_
    refine g_aload_n (pc := 44) C 0 rfl dX7_counted_44 rfl ?_
    refine g_callI (pc := 45) (rest := []) (g_runV C mv_RX7_339 (fun x1 hx1 => m_X7_snowsThere hx1) so_RX7 rfl (by decide) rfl rfl (Nat.le_of_ble_eq_true rfl) dX7_counted_45) (fun r2 => ?_)
    exact g_iret C dX7_counted_48
  refine g_ite (fun hc3 => ?_) (fun hc3 => ?_)
  · refine g_tabIn (pc := 1) (tgt := 49) C dX7_counted_1 hc3 (by decide) (by decide) rfl (by decide) ?_
    refine g_aload_n (pc := 49) C 0 rfl dX7_counted_49 rfl ?_
    refine g_callI (pc := 50) (rest := []) (g_runV C mv_RX7_270 (fun x1 hx1 => m_X7_plansThere hx1) so_RX7 rfl (by decide) rfl rfl (Nat.le_of_ble_eq_true rfl) dX7_counted_50) (fun r4 => ?_)
    exact g_iret C dX7_counted_53
  refine g_ite (fun hc5 => ?_) (fun hc5 => ?_)
  · refine g_tabIn (pc := 1) (tgt := 54) C dX7_counted_1 hc5 (by decide) (by decide) rfl (by decide) ?_
    refine g_aload_n (pc := 54) C 0 rfl dX7_counted_54 rfl ?_
    refine g_get (pc := 55) C so_RX7 6 fl_RX7_49 (v := .ref (w.2.1 (41))) rfl dX7_counted_55 ?_
    refine g_get (pc := 58) C (so_RX0 isB41) 4 fl_RX7_190 (v := .int (h.1 41 4)) rfl dX7_counted_58 ?_
    exact g_iret C dX7_counted_61
  refine g_ite (fun hc6 => ?_) (fun hc6 => ?_)
  · refine g_tabIn (pc := 1) (tgt := 62) C dX7_counted_1 hc6 (by decide) (by decide) rfl (by decide) ?_
    refine g_aload_n (pc := 62) C 0 rfl dX7_counted_62 rfl ?_
    refine g_get (pc := 63) C so_RX7 6 fl_RX7_49 (v := .ref (w.2.1 (41))) rfl dX7_counted_63 ?_
    refine g_get (pc := 66) C (so_RX0 isB41) 5 fl_RX7_227 (v := .int (h.1 41 5)) rfl dX7_counted_66 ?_
    exact g_iret C dX7_counted_69
  refine g_ite (fun hc7 => ?_) (fun hc7 => ?_)
  · refine g_tabIn (pc := 1) (tgt := 70) C dX7_counted_1 hc7 (by decide) (by decide) rfl (by decide) ?_
    refine g_aload_n (pc := 70) C 0 rfl dX7_counted_70 rfl ?_
    refine g_get (pc := 71) C so_RX7 6 fl_RX7_49 (v := .ref (w.2.1 (41))) rfl dX7_counted_71 ?_
    refine g_callI (pc := 74) (rest := []) (g_runV C mv_RX7_342 (fun x1 hx1 => m_X0_standingFirsts hx1 isB41) (so_RX0 isB41) rfl (by decide) rfl rfl (Nat.le_of_ble_eq_true rfl) dX7_counted_74) (fun r8 => ?_)
    exact g_iret C dX7_counted_77
  refine g_ite (fun hc9 => ?_) (fun hc9 => ?_)
  · refine g_tabIn (pc := 1) (tgt := 78) C dX7_counted_1 hc9 (by decide) (by decide) rfl (by decide) ?_
    refine g_aload_n (pc := 78) C 0 rfl dX7_counted_78 rfl ?_
    refine g_callI (pc := 79) (rest := []) (g_runV C mv_RX7_345 (fun x1 hx1 => m_X7_kept hx1) so_RX7 rfl (by decide) rfl rfl (Nat.le_of_ble_eq_true rfl) dX7_counted_79) (fun r10 => ?_)
    exact g_iret C dX7_counted_82
  refine g_ite (fun hc11 => ?_) (fun hc11 => ?_)
  · refine g_tabIn (pc := 1) (tgt := 83) C dX7_counted_1 hc11 (by decide) (by decide) rfl (by decide) ?_
    refine g_aload_n (pc := 83) C 0 rfl dX7_counted_83 rfl ?_
    refine g_get (pc := 84) C so_RX7 1 fl_RX7_14 (v := .ref (w.2.1 (8))) rfl dX7_counted_84 ?_
    refine g_callI (pc := 87) (rest := []) (g_runS C ms_RX7_348 (fun x1 hx1 => m_X7_sizesThere hx1 si_8) (by decide) rfl rfl (Nat.le_of_ble_eq_true rfl) dX7_counted_87) (fun r12 => ?_)
    exact g_iret C dX7_counted_90
  refine g_tabOut (pc := 1) (tgt := 91) C dX7_counted_1 (tab_out (by decide) (by decide) (fun j h1 h2 => ?_)) (by decide) ?_
  · rcases tab_0_6 h1 h2 with e | e | e | e | e | e | e <;> subst e <;> assumption
  · refine g_aload_n (pc := 91) C 0 rfl dX7_counted_91 rfl ?_
    refine g_get (pc := 92) C so_RX7 3 fl_RX7_29 (v := .ref (w.2.1 (14))) rfl dX7_counted_92 ?_
    refine g_callI (pc := 95) (rest := []) (g_runS C ms_RX7_348 (fun x1 hx1 => m_X7_sizesThere hx1 si_14) (by decide) rfl rfl (Nat.le_of_ble_eq_true rfl) dX7_counted_95) (fun r13 => ?_)
    exact g_iret C dX7_counted_98
/-- SnowHouse.count(I)I -/
def f_X7_count (h : TT) (x1 : Int32) : Option Int32 := (f_X7_isBelow h x1 (8 : Int32)).bind fun r1 => (if r1 = 0 then some (-1 : Int32) else (f_X7_counted h x1).bind fun r3 => some r3)
set_option maxRecDepth 20000 in
theorem m_X7_count {l : Launch} {w : WK} {h : TT} {x1 : Int32} {x : Int32} (hx : f_X7_count h x1 = some x)  : Met l yX7_count (Cond.code yX7_count cX7_count 2 (some .int) :: wsG) { frames := 2, cells := 0, slots := 0, locals := 43 } (PG w [.ref (w.2.1 (0)), .int x1] h) (QG w ((fI h) x)) 0 0 (AA w) := by
  refine m_entry (own := RX7) (f := (fI h)) hx (by decide) rfl (Nat.le_of_ble_eq_true rfl) (fun p e s m args below meth c C => ?_)
  show GO p l e _ s m args below meth c w 2 (fI h) (f_X7_count h x1) 0 [(0, .ref (w.2.1 (0))), (1, .int x1)] [] h
  unfold f_X7_count
  refine g_iload_n (pc := 0) C 1 rfl dX7_count_0 rfl ?_
  refine g_bipush (pc := 1) (v := 8) C dX7_count_1 kb_8 ?_
  refine g_callI (pc := 3) (rest := []) (g_runS C ms_RX7_105 (fun x1 hx1 => m_X7_isBelow hx1) (by decide) rfl rfl (Nat.le_of_ble_eq_true rfl) dX7_count_3) (fun r1 => ?_)
  refine g_if_eq (pc := 6) (tgt := 17) C dX7_count_6 (by decide) (fun hc2 => ?_) (fun hc2 => ?_)
  · refine g_iconst (pc := 17) (v := -1) C dX7_count_17 kc_m1 ?_
    exact g_iret C dX7_count_18
  · refine g_aload_n (pc := 9) C 0 rfl dX7_count_9 rfl ?_
    refine g_iload_n (pc := 10) C 1 rfl dX7_count_10 rfl ?_
    refine g_callI (pc := 11) (rest := []) (g_runV C mv_RX7_325 (fun x1 hx1 => m_X7_counted hx1) so_RX7 rfl (by decide) rfl rfl (Nat.le_of_ble_eq_true rfl) dX7_count_11) (fun r3 => ?_)
    refine g_goto (pc := 14) (tgt := 18) C dX7_count_14 (by decide) ?_
    exact g_iret C dX7_count_18
/-- SnowHouse.finding()I -/
def f_X7_finding (h : TT)  : Option Int32 := some (h.1 0 16)
set_option maxRecDepth 20000 in
theorem m_X7_finding {l : Launch} {w : WK} {h : TT}  {x : Int32} (hx : f_X7_finding h  = some x)  : Met l yX7_finding (Cond.code yX7_finding cX7_finding 1 (some .int) :: wsG) { frames := 0, cells := 0, slots := 0, locals := 0 } (PG w [.ref (w.2.1 (0))] h) (QG w ((fI h) x)) 0 0 (AA w) := by
  refine m_entry (own := RX7) (f := (fI h)) hx (by decide) rfl (Nat.le_of_ble_eq_true rfl) (fun p e s m args below meth c C => ?_)
  show GO p l e _ s m args below meth c w 1 (fI h) (f_X7_finding h ) 0 [(0, .ref (w.2.1 (0)))] [] h
  unfold f_X7_finding
  refine g_aload_n (pc := 0) C 0 rfl dX7_finding_0 rfl ?_
  refine g_get (pc := 1) C so_RX7 16 fl_RX7_99 (v := .int (h.1 0 16)) rfl dX7_finding_1 ?_
  exact g_iret C dX7_finding_4
/-- SnowHouse.findings(I)I -/
def f_X7_findings_10 (h : TT)    : Option Int32 := some (-1 : Int32)
set_option maxRecDepth 20000 in
theorem j_X7_findings_10 {p : Program} {l : Launch} {e : Env} {R : Room} {s : State} {m : MethodId} {args : Array Value} {below : List Frame} {meth : Method} {c : Code} {w : WK} (C : CX p R s m args meth c w RX7 cX7_findings 2 (some .int) 0 0) (h : TT)      : GO p l e R s m args below meth c w 2 (fI h) (f_X7_findings_10 h) 10 [] [] h := by
  unfold f_X7_findings_10
  refine g_iconst (pc := 10) (v := -1) C dX7_findings_10 kc_m1 ?_
  refine g_goto (pc := 11) (tgt := 20) C dX7_findings_11 (by decide) ?_
  exact g_iret C dX7_findings_20
def f_X7_findings (h : TT) (x1 : Int32) : Option Int32 := (if x1 < (1 : Int32) then f_X7_findings_10 h else (if x1 ≤ (5 : Int32) then if inb x1 6 = true then some (h.1 146 x1.toNatClampNeg) else none else f_X7_findings_10 h))
set_option maxRecDepth 20000 in
theorem m_X7_findings {l : Launch} {w : WK} {h : TT} {x1 : Int32} {x : Int32} (hx : f_X7_findings h x1 = some x)  : Met l yX7_findings (Cond.code yX7_findings cX7_findings 2 (some .int) :: wsG) { frames := 0, cells := 0, slots := 0, locals := 0 } (PG w [.ref (w.2.1 (0)), .int x1] h) (QG w ((fI h) x)) 0 0 (AA w) := by
  refine m_entry (own := RX7) (f := (fI h)) hx (by decide) rfl (Nat.le_of_ble_eq_true rfl) (fun p e s m args below meth c C => ?_)
  show GO p l e _ s m args below meth c w 2 (fI h) (f_X7_findings h x1) 0 [(0, .ref (w.2.1 (0))), (1, .int x1)] [] h
  unfold f_X7_findings
  refine g_iload_n (pc := 0) C 1 rfl dX7_findings_0 rfl ?_
  refine g_iconst (pc := 1) (v := 1) C dX7_findings_1 kc_1 ?_
  refine g_icmp_lt (pc := 2) (tgt := 10) C dX7_findings_2 (by decide) (fun hc1 => ?_) (fun hc1 => ?_)
  · refine g_lv (lv' := []) [] rfl ?_
    exact j_X7_findings_10 C h
  · refine g_iload_n (pc := 5) C 1 rfl dX7_findings_5 rfl ?_
    refine g_iconst (pc := 6) (v := 5) C dX7_findings_6 kc_5 ?_
    refine g_icmp_le (pc := 7) (tgt := 14) C dX7_findings_7 (by decide) (fun hc2 => ?_) (fun hc2 => ?_)
    · refine g_aload_n (pc := 14) C 0 rfl dX7_findings_14 rfl ?_
      refine g_get (pc := 15) C so_RX7 17 fl_RX7_102 (v := .ref (w.2.1 (146))) rfl dX7_findings_15 ?_
      refine g_iload_n (pc := 18) C 1 rfl dX7_findings_18 rfl ?_
      refine g_iald (pc := 19) C si_146 dX7_findings_19 (fun hb3 => ?_)
      exact g_iret C dX7_findings_20
    · refine g_lv (lv' := []) [] rfl ?_
      exact j_X7_findings_10 C h
/-- SnowHouse$Snow.mixInto(J)J -/
def f_X5_mixInto_17 (h : TT) (o0 : Nat)  : Nat → Int64 → Int32 → Option Int64
  | 0, _, _ => none
  | n + 1, x1, x3 => (if (4 : Int32) ≤ x3 then some x1 else if inb x3 4 = true then nm (((31 : Int64) * x1) + ((h.1 (o0 + 1) x3.toNatClampNeg).toInt64)) fun y4 => f_X5_mixInto_17 h o0 n y4 (x3 + (1 : Int32)) else none)
set_option maxRecDepth 20000 in
theorem j_X5_mixInto_17 {p : Program} {l : Launch} {e : Env} {R : Room} {s : State} {m : MethodId} {args : Array Value} {below : List Frame} {meth : Method} {c : Code} {w : WK} (C : CX p R s m args meth c w RX5 cX5_mixInto 4 (some .long) 0 0) (h : TT) {o0 : Nat} (ho0 : IsS o0)  : ∀ (n : Nat) (x1 : Int64) (x3 : Int32), GO p l e R s m args below meth c w 4 (fJ h) (f_X5_mixInto_17 h o0 n x1 x3) 17 [(0, .ref (w.2.1 (o0))), (1, .long x1), (3, .int x3)] [] h := by
  intro n
  induction n with
  | zero =>
    intro x1 x3
    exact g_none
  | succ n ih =>
    intro x1 x3
    rw [f_X5_mixInto_17]
    refine g_iload_n (pc := 17) C 2 rfl dX5_mixInto_17 rfl ?_
    refine g_iconst (pc := 18) (v := 4) C dX5_mixInto_18 kc_4 ?_
    refine g_icmp_ge (pc := 19) (tgt := 42) C dX5_mixInto_19 (by decide) (fun hc2 => ?_) (fun hc2 => ?_)
    · refine g_lload_n (pc := 42) C 1 rfl dX5_mixInto_42 rfl ?_
      exact g_lret C dX5_mixInto_43
    · refine g_ldc2 (pc := 22) C wd_RX5_25 dX5_mixInto_22 ?_
      refine g_lload_n (pc := 25) C 1 rfl dX5_mixInto_25 rfl ?_
      refine g_lmul (pc := 26) C dX5_mixInto_26 ?_
      refine g_aload_n (pc := 27) C 0 rfl dX5_mixInto_27 rfl ?_
      refine g_get (pc := 28) C (so_RX5 ho0) 1 fl_RX5_9 (v := .ref (w.2.1 (o0 + 1))) rfl dX5_mixInto_28 ?_
      refine g_iload_n (pc := 31) C 2 rfl dX5_mixInto_31 rfl ?_
      refine g_iald (pc := 32) C (siS ho0) dX5_mixInto_32 (fun hb3 => ?_)
      refine g_i2l (pc := 33) C dX5_mixInto_33 ?_
      refine g_ladd (pc := 34) C dX5_mixInto_34 ?_
      refine g_nmj (fun y4 => ?_)
      refine g_lstore_n (pc := 35) C dX5_mixInto_35 rfl (by decide) (lv' := [(1, .long y4), (0, .ref (w.2.1 (o0))), (3, .int x3)]) rfl ?_
      refine g_iinc (pc := 36) C 2 rfl dX5_mixInto_36 (ki_1 _) (by decide) (lv' := [(3, .int (x3 + (1 : Int32))), (1, .long y4), (0, .ref (w.2.1 (o0)))]) rfl ?_
      refine g_goto (pc := 39) (tgt := 17) C dX5_mixInto_39 (by decide) ?_
      refine g_lv (lv' := [(0, .ref (w.2.1 (o0))), (1, .long y4), (3, .int (x3 + (1 : Int32)))]) [2, 1, 0] rfl ?_
      exact ih y4 (x3 + (1 : Int32))
def f_X5_mixInto (h : TT) (o0 : Nat) (x1 : Int64) : Option Int64 := (if (h.1 o0 0) = 0 then some (((31 : Int64) * x1) - (1 : Int64)) else f_X5_mixInto_17 h o0 KF x1 (0 : Int32))
set_option maxRecDepth 20000 in
theorem m_X5_mixInto {l : Launch} {w : WK} {h : TT} {o0 : Nat} {x1 : Int64} {x : Int64} (hx : f_X5_mixInto h o0 x1 = some x) (ho0 : IsS o0) : Met l yX5_mixInto (Cond.code yX5_mixInto cX5_mixInto 4 (some .long) :: wsG) { frames := 0, cells := 0, slots := 0, locals := 0 } (PG w [.ref (w.2.1 (o0)), .long x1] h) (QG w ((fJ h) x)) 0 0 (AA w) := by
  refine m_entry (own := RX5) (f := (fJ h)) hx (by decide) rfl (Nat.le_of_ble_eq_true rfl) (fun p e s m args below meth c C => ?_)
  show GO p l e _ s m args below meth c w 4 (fJ h) (f_X5_mixInto h o0 x1) 0 [(0, .ref (w.2.1 (o0))), (1, .long x1)] [] h
  unfold f_X5_mixInto
  refine g_aload_n (pc := 0) C 0 rfl dX5_mixInto_0 rfl ?_
  refine g_get (pc := 1) C (so_RX5 ho0) 0 fl_RX5_15 (v := .int (h.1 o0 0)) rfl dX5_mixInto_1 ?_
  refine g_if_ne (pc := 4) (tgt := 15) C dX5_mixInto_4 (by decide) (fun hc1 => ?_) (fun hc1 => ?_)
  · refine g_ldc2 (pc := 7) C wd_RX5_25 dX5_mixInto_7 ?_
    refine g_lload_n (pc := 10) C 1 rfl dX5_mixInto_10 rfl ?_
    refine g_lmul (pc := 11) C dX5_mixInto_11 ?_
    refine g_lconst (pc := 12) (v := 1) C dX5_mixInto_12 (by decide) ?_
    refine g_lsub (pc := 13) C dX5_mixInto_13 ?_
    exact g_lret C dX5_mixInto_14
  · refine g_iconst (pc := 15) (v := 0) C dX5_mixInto_15 kc_0 ?_
    refine g_istore_n (pc := 16) C dX5_mixInto_16 rfl (by decide) (lv' := [(3, .int (0 : Int32)), (0, .ref (w.2.1 (o0))), (1, .long x1)]) rfl ?_
    refine g_lv (lv' := [(0, .ref (w.2.1 (o0))), (1, .long x1), (3, .int (0 : Int32))]) [1, 2, 0] rfl ?_
    exact j_X5_mixInto_17 C h ho0 KF x1 (0 : Int32)
/-- SnowHouse$Plan.mixInto(J)J -/
def f_X3_mixInto_43 (h : TT) (o0 : Nat)  : Nat → Int64 → Int32 → Option Int64
  | 0, _, _ => none
  | n + 1, x1, x3 => (if (h.1 o0 1) ≤ x3 then some x1 else if inb x3 8 = true then nm (((31 : Int64) * x1) + ((h.1 (o0 + 1) x3.toNatClampNeg).toInt64)) fun y5 => (f_X3_sizeAndLean h o0 x3).bind fun r6 => nm (((31 : Int64) * y5) + r6.toInt64) fun y7 => f_X3_mixInto_43 h o0 n y7 (x3 + (1 : Int32)) else none)
set_option maxRecDepth 20000 in
theorem j_X3_mixInto_43 {p : Program} {l : Launch} {e : Env} {R : Room} {s : State} {m : MethodId} {args : Array Value} {below : List Frame} {meth : Method} {c : Code} {w : WK} (C : CX p R s m args meth c w RX3 cX3_mixInto 4 (some .long) 2 42) (h : TT) {o0 : Nat} (ho0 : IsP o0)  : ∀ (n : Nat) (x1 : Int64) (x3 : Int32), GO p l e R s m args below meth c w 4 (fJ h) (f_X3_mixInto_43 h o0 n x1 x3) 43 [(0, .ref (w.2.1 (o0))), (1, .long x1), (3, .int x3)] [] h := by
  intro n
  induction n with
  | zero =>
    intro x1 x3
    exact g_none
  | succ n ih =>
    intro x1 x3
    rw [f_X3_mixInto_43]
    refine g_iload_n (pc := 43) C 2 rfl dX3_mixInto_43 rfl ?_
    refine g_aload_n (pc := 44) C 0 rfl dX3_mixInto_44 rfl ?_
    refine g_get (pc := 45) C (so_RX3 ho0) 1 fl_RX3_25 (v := .int (h.1 o0 1)) rfl dX3_mixInto_45 ?_
    refine g_icmp_ge (pc := 48) (tgt := 84) C dX3_mixInto_48 (by decide) (fun hc3 => ?_) (fun hc3 => ?_)
    · refine g_lload_n (pc := 84) C 1 rfl dX3_mixInto_84 rfl ?_
      exact g_lret C dX3_mixInto_85
    · refine g_ldc2 (pc := 51) C wd_RX3_56 dX3_mixInto_51 ?_
      refine g_lload_n (pc := 54) C 1 rfl dX3_mixInto_54 rfl ?_
      refine g_lmul (pc := 55) C dX3_mixInto_55 ?_
      refine g_aload_n (pc := 56) C 0 rfl dX3_mixInto_56 rfl ?_
      refine g_get (pc := 57) C (so_RX3 ho0) 4 fl_RX3_9 (v := .ref (w.2.1 (o0 + 1))) rfl dX3_mixInto_57 ?_
      refine g_iload_n (pc := 60) C 2 rfl dX3_mixInto_60 rfl ?_
      refine g_iald (pc := 61) C (siP1 ho0) dX3_mixInto_61 (fun hb4 => ?_)
      refine g_i2l (pc := 62) C dX3_mixInto_62 ?_
      refine g_ladd (pc := 63) C dX3_mixInto_63 ?_
      refine g_nmj (fun y5 => ?_)
      refine g_lstore_n (pc := 64) C dX3_mixInto_64 rfl (by decide) (lv' := [(1, .long y5), (0, .ref (w.2.1 (o0))), (3, .int x3)]) rfl ?_
      refine g_ldc2 (pc := 65) C wd_RX3_56 dX3_mixInto_65 ?_
      refine g_lload_n (pc := 68) C 0 rfl dX3_mixInto_68 rfl ?_
      refine g_lmul (pc := 69) C dX3_mixInto_69 ?_
      refine g_aload_n (pc := 70) C 1 rfl dX3_mixInto_70 rfl ?_
      refine g_iload_n (pc := 71) C 2 rfl dX3_mixInto_71 rfl ?_
      refine g_callI (pc := 72) (rest := [.long ((31 : Int64) * y5)]) (g_runV C mv_RX3_62 (fun x1 hx1 => m_X3_sizeAndLean hx1 ho0) (so_RX3 ho0) rfl (by decide) rfl rfl (Nat.le_of_ble_eq_true rfl) dX3_mixInto_72) (fun r6 => ?_)
      refine g_i2l (pc := 75) C dX3_mixInto_75 ?_
      refine g_ladd (pc := 76) C dX3_mixInto_76 ?_
      refine g_nmj (fun y7 => ?_)
      refine g_lstore_n (pc := 77) C dX3_mixInto_77 rfl (by decide) (lv' := [(1, .long y7), (0, .ref (w.2.1 (o0))), (3, .int x3)]) rfl ?_
      refine g_iinc (pc := 78) C 2 rfl dX3_mixInto_78 (ki_1 _) (by decide) (lv' := [(3, .int (x3 + (1 : Int32))), (1, .long y7), (0, .ref (w.2.1 (o0)))]) rfl ?_
      refine g_goto (pc := 81) (tgt := 43) C dX3_mixInto_81 (by decide) ?_
      refine g_lv (lv' := [(0, .ref (w.2.1 (o0))), (1, .long y7), (3, .int (x3 + (1 : Int32)))]) [2, 1, 0] rfl ?_
      exact ih y7 (x3 + (1 : Int32))
def f_X3_mixInto_17 (h : TT) (o0 : Nat)  : Nat → Int64 → Int32 → Option Int64
  | 0, _, _ => none
  | n + 1, x1, x3 => (if (4 : Int32) ≤ x3 then f_X3_mixInto_43 h o0 KF x1 (0 : Int32) else (f_X3_fact h o0 x3).bind fun r8 => nm (((31 : Int64) * x1) + r8.toInt64) fun y9 => f_X3_mixInto_17 h o0 n y9 (x3 + (1 : Int32)))
set_option maxRecDepth 20000 in
theorem j_X3_mixInto_17 {p : Program} {l : Launch} {e : Env} {R : Room} {s : State} {m : MethodId} {args : Array Value} {below : List Frame} {meth : Method} {c : Code} {w : WK} (C : CX p R s m args meth c w RX3 cX3_mixInto 4 (some .long) 2 42) (h : TT) {o0 : Nat} (ho0 : IsP o0)  : ∀ (n : Nat) (x1 : Int64) (x3 : Int32), GO p l e R s m args below meth c w 4 (fJ h) (f_X3_mixInto_17 h o0 n x1 x3) 17 [(0, .ref (w.2.1 (o0))), (1, .long x1), (3, .int x3)] [] h := by
  intro n
  induction n with
  | zero =>
    intro x1 x3
    exact g_none
  | succ n ih =>
    intro x1 x3
    rw [f_X3_mixInto_17]
    refine g_iload_n (pc := 17) C 2 rfl dX3_mixInto_17 rfl ?_
    refine g_iconst (pc := 18) (v := 4) C dX3_mixInto_18 kc_4 ?_
    refine g_icmp_ge (pc := 19) (tgt := 41) C dX3_mixInto_19 (by decide) (fun hc2 => ?_) (fun hc2 => ?_)
    · refine g_iconst (pc := 41) (v := 0) C dX3_mixInto_41 kc_0 ?_
      refine g_istore_n (pc := 42) C dX3_mixInto_42 rfl (by decide) (lv' := [(3, .int (0 : Int32)), (0, .ref (w.2.1 (o0))), (1, .long x1)]) rfl ?_
      refine g_lv (lv' := [(0, .ref (w.2.1 (o0))), (1, .long x1), (3, .int (0 : Int32))]) [1, 2, 0] rfl ?_
      exact j_X3_mixInto_43 C h ho0 KF x1 (0 : Int32)
    · refine g_ldc2 (pc := 22) C wd_RX3_56 dX3_mixInto_22 ?_
      refine g_lload_n (pc := 25) C 1 rfl dX3_mixInto_25 rfl ?_
      refine g_lmul (pc := 26) C dX3_mixInto_26 ?_
      refine g_aload_n (pc := 27) C 0 rfl dX3_mixInto_27 rfl ?_
      refine g_iload_n (pc := 28) C 2 rfl dX3_mixInto_28 rfl ?_
      refine g_callI (pc := 29) (rest := [.long ((31 : Int64) * x1)]) (g_runV C mv_RX3_58 (fun x1 hx1 => m_X3_fact hx1 ho0) (so_RX3 ho0) rfl (by decide) rfl rfl (Nat.le_of_ble_eq_true rfl) dX3_mixInto_29) (fun r8 => ?_)
      refine g_i2l (pc := 32) C dX3_mixInto_32 ?_
      refine g_ladd (pc := 33) C dX3_mixInto_33 ?_
      refine g_nmj (fun y9 => ?_)
      refine g_lstore_n (pc := 34) C dX3_mixInto_34 rfl (by decide) (lv' := [(1, .long y9), (0, .ref (w.2.1 (o0))), (3, .int x3)]) rfl ?_
      refine g_iinc (pc := 35) C 2 rfl dX3_mixInto_35 (ki_1 _) (by decide) (lv' := [(3, .int (x3 + (1 : Int32))), (1, .long y9), (0, .ref (w.2.1 (o0)))]) rfl ?_
      refine g_goto (pc := 38) (tgt := 17) C dX3_mixInto_38 (by decide) ?_
      refine g_lv (lv' := [(0, .ref (w.2.1 (o0))), (1, .long y9), (3, .int (x3 + (1 : Int32)))]) [2, 1, 0] rfl ?_
      exact ih y9 (x3 + (1 : Int32))
def f_X3_mixInto (h : TT) (o0 : Nat) (x1 : Int64) : Option Int64 := (if (h.1 o0 0) = 0 then some (((31 : Int64) * x1) - (1 : Int64)) else f_X3_mixInto_17 h o0 KF x1 (0 : Int32))
set_option maxRecDepth 20000 in
theorem m_X3_mixInto {l : Launch} {w : WK} {h : TT} {o0 : Nat} {x1 : Int64} {x : Int64} (hx : f_X3_mixInto h o0 x1 = some x) (ho0 : IsP o0) : Met l yX3_mixInto (Cond.code yX3_mixInto cX3_mixInto 4 (some .long) :: wsG) { frames := 2, cells := 0, slots := 0, locals := 42 } (PG w [.ref (w.2.1 (o0)), .long x1] h) (QG w ((fJ h) x)) 0 0 (AA w) := by
  refine m_entry (own := RX3) (f := (fJ h)) hx (by decide) rfl (Nat.le_of_ble_eq_true rfl) (fun p e s m args below meth c C => ?_)
  show GO p l e _ s m args below meth c w 4 (fJ h) (f_X3_mixInto h o0 x1) 0 [(0, .ref (w.2.1 (o0))), (1, .long x1)] [] h
  unfold f_X3_mixInto
  refine g_aload_n (pc := 0) C 0 rfl dX3_mixInto_0 rfl ?_
  refine g_get (pc := 1) C (so_RX3 ho0) 0 fl_RX3_21 (v := .int (h.1 o0 0)) rfl dX3_mixInto_1 ?_
  refine g_if_ne (pc := 4) (tgt := 15) C dX3_mixInto_4 (by decide) (fun hc1 => ?_) (fun hc1 => ?_)
  · refine g_ldc2 (pc := 7) C wd_RX3_56 dX3_mixInto_7 ?_
    refine g_lload_n (pc := 10) C 1 rfl dX3_mixInto_10 rfl ?_
    refine g_lmul (pc := 11) C dX3_mixInto_11 ?_
    refine g_lconst (pc := 12) (v := 1) C dX3_mixInto_12 (by decide) ?_
    refine g_lsub (pc := 13) C dX3_mixInto_13 ?_
    exact g_lret C dX3_mixInto_14
  · refine g_iconst (pc := 15) (v := 0) C dX3_mixInto_15 kc_0 ?_
    refine g_istore_n (pc := 16) C dX3_mixInto_16 rfl (by decide) (lv' := [(3, .int (0 : Int32)), (0, .ref (w.2.1 (o0))), (1, .long x1)]) rfl ?_
    refine g_lv (lv' := [(0, .ref (w.2.1 (o0))), (1, .long x1), (3, .int (0 : Int32))]) [1, 2, 0] rfl ?_
    exact j_X3_mixInto_17 C h ho0 KF x1 (0 : Int32)
/-- SnowHouse$Build.mixInto(J)J -/
def f_X0_mixInto_28 (h : TT) (o0 : Nat) (k17 : Int64 → Int32 → Option Int64) : Nat → Int64 → Int32 → Int32 → Option Int64
  | 0, _, _, _ => none
  | n + 1, x1, x3, x4 => (if (5 : Int32) ≤ x4 then k17 x1 (x3 + (1 : Int32)) else (f_X0_fact h o0 x3 x4).bind fun r4 => nm (((31 : Int64) * x1) + r4.toInt64) fun y5 => f_X0_mixInto_28 h o0 k17 n y5 x3 (x4 + (1 : Int32)))
set_option maxRecDepth 20000 in
theorem j_X0_mixInto_28 {p : Program} {l : Launch} {e : Env} {R : Room} {s : State} {m : MethodId} {args : Array Value} {below : List Frame} {meth : Method} {c : Code} {w : WK} (C : CX p R s m args meth c w RX0 cX0_mixInto 5 (some .long) 3 66) (h : TT) {o0 : Nat} (ho0 : IsB o0) {k17 : Int64 → Int32 → Option Int64} (hk17 : ∀ (x1 : Int64) (x3 : Int32) , GO p l e R s m args below meth c w 5 (fJ h) (k17 x1 x3) 17 [(0, .ref (w.2.1 (o0))), (1, .long x1), (3, .int x3)] [] h) : ∀ (n : Nat) (x1 : Int64) (x3 : Int32) (x4 : Int32), GO p l e R s m args below meth c w 5 (fJ h) (f_X0_mixInto_28 h o0 k17 n x1 x3 x4) 28 [(0, .ref (w.2.1 (o0))), (1, .long x1), (3, .int x3), (4, .int x4)] [] h := by
  intro n
  induction n with
  | zero =>
    intro x1 x3 x4
    exact g_none
  | succ n ih =>
    intro x1 x3 x4
    rw [f_X0_mixInto_28]
    refine g_iload (pc := 28) C 3 rfl dX0_mixInto_28 ?_
    refine g_iconst (pc := 30) (v := 5) C dX0_mixInto_30 kc_5 ?_
    refine g_icmp_ge (pc := 31) (tgt := 55) C dX0_mixInto_31 (by decide) (fun hc3 => ?_) (fun hc3 => ?_)
    · refine g_iinc (pc := 55) C 2 rfl dX0_mixInto_55 (ki_1 _) (by decide) (lv' := [(3, .int (x3 + (1 : Int32))), (0, .ref (w.2.1 (o0))), (1, .long x1), (4, .int x4)]) rfl ?_
      refine g_goto (pc := 58) (tgt := 17) C dX0_mixInto_58 (by decide) ?_
      refine g_lv (lv' := [(0, .ref (w.2.1 (o0))), (1, .long x1), (3, .int (x3 + (1 : Int32)))]) [1, 2, 0] rfl ?_
      exact hk17 x1 (x3 + (1 : Int32))
    · refine g_ldc2 (pc := 34) C wd_RX0_167 dX0_mixInto_34 ?_
      refine g_lload_n (pc := 37) C 1 rfl dX0_mixInto_37 rfl ?_
      refine g_lmul (pc := 38) C dX0_mixInto_38 ?_
      refine g_aload_n (pc := 39) C 0 rfl dX0_mixInto_39 rfl ?_
      refine g_iload_n (pc := 40) C 2 rfl dX0_mixInto_40 rfl ?_
      refine g_iload (pc := 41) C 3 rfl dX0_mixInto_41 ?_
      refine g_callI (pc := 43) (rest := [.long ((31 : Int64) * x1)]) (g_runV C mv_RX0_169 (fun x1 hx1 => m_X0_fact hx1 ho0) (so_RX0 ho0) rfl (by decide) rfl rfl (Nat.le_of_ble_eq_true rfl) dX0_mixInto_43) (fun r4 => ?_)
      refine g_i2l (pc := 46) C dX0_mixInto_46 ?_
      refine g_ladd (pc := 47) C dX0_mixInto_47 ?_
      refine g_nmj (fun y5 => ?_)
      refine g_lstore_n (pc := 48) C dX0_mixInto_48 rfl (by decide) (lv' := [(1, .long y5), (0, .ref (w.2.1 (o0))), (3, .int x3), (4, .int x4)]) rfl ?_
      refine g_iinc (pc := 49) C 3 rfl dX0_mixInto_49 (ki_1 _) (by decide) (lv' := [(4, .int (x4 + (1 : Int32))), (1, .long y5), (0, .ref (w.2.1 (o0))), (3, .int x3)]) rfl ?_
      refine g_goto (pc := 52) (tgt := 28) C dX0_mixInto_52 (by decide) ?_
      refine g_lv (lv' := [(0, .ref (w.2.1 (o0))), (1, .long y5), (3, .int x3), (4, .int (x4 + (1 : Int32)))]) [2, 1, 3, 0] rfl ?_
      exact ih y5 x3 (x4 + (1 : Int32))
def f_X0_mixInto_17 (h : TT) (o0 : Nat)  : Nat → Int64 → Int32 → Option Int64
  | 0, _, _ => none
  | n + 1, x1, x3 => (if (h.1 o0 4) ≤ x3 then some x1 else f_X0_mixInto_28 h o0 (f_X0_mixInto_17 h o0 n) KF x1 x3 (0 : Int32))
set_option maxRecDepth 20000 in
theorem j_X0_mixInto_17 {p : Program} {l : Launch} {e : Env} {R : Room} {s : State} {m : MethodId} {args : Array Value} {below : List Frame} {meth : Method} {c : Code} {w : WK} (C : CX p R s m args meth c w RX0 cX0_mixInto 5 (some .long) 3 66) (h : TT) {o0 : Nat} (ho0 : IsB o0)  : ∀ (n : Nat) (x1 : Int64) (x3 : Int32), GO p l e R s m args below meth c w 5 (fJ h) (f_X0_mixInto_17 h o0 n x1 x3) 17 [(0, .ref (w.2.1 (o0))), (1, .long x1), (3, .int x3)] [] h := by
  intro n
  induction n with
  | zero =>
    intro x1 x3
    exact g_none
  | succ n ih =>
    intro x1 x3
    rw [f_X0_mixInto_17]
    refine g_iload_n (pc := 17) C 2 rfl dX0_mixInto_17 rfl ?_
    refine g_aload_n (pc := 18) C 0 rfl dX0_mixInto_18 rfl ?_
    refine g_get (pc := 19) C (so_RX0 ho0) 4 fl_RX0_80 (v := .int (h.1 o0 4)) rfl dX0_mixInto_19 ?_
    refine g_icmp_ge (pc := 22) (tgt := 61) C dX0_mixInto_22 (by decide) (fun hc2 => ?_) (fun hc2 => ?_)
    · refine g_lload_n (pc := 61) C 1 rfl dX0_mixInto_61 rfl ?_
      exact g_lret C dX0_mixInto_62
    · refine g_iconst (pc := 25) (v := 0) C dX0_mixInto_25 kc_0 ?_
      refine g_istore (pc := 26) C dX0_mixInto_26 (by decide) (lv' := [(4, .int (0 : Int32)), (0, .ref (w.2.1 (o0))), (1, .long x1), (3, .int x3)]) rfl ?_
      refine g_lv (lv' := [(0, .ref (w.2.1 (o0))), (1, .long x1), (3, .int x3), (4, .int (0 : Int32))]) [1, 2, 3, 0] rfl ?_
      exact j_X0_mixInto_28 C h ho0 ih KF x1 x3 (0 : Int32)
def f_X0_mixInto (h : TT) (o0 : Nat) (x1 : Int64) : Option Int64 := (if (h.1 o0 0) = 0 then some (((31 : Int64) * x1) - (1 : Int64)) else f_X0_mixInto_17 h o0 KF x1 (0 : Int32))
set_option maxRecDepth 20000 in
theorem m_X0_mixInto {l : Launch} {w : WK} {h : TT} {o0 : Nat} {x1 : Int64} {x : Int64} (hx : f_X0_mixInto h o0 x1 = some x) (ho0 : IsB o0) : Met l yX0_mixInto (Cond.code yX0_mixInto cX0_mixInto 5 (some .long) :: wsG) { frames := 3, cells := 0, slots := 0, locals := 66 } (PG w [.ref (w.2.1 (o0)), .long x1] h) (QG w ((fJ h) x)) 0 0 (AA w) := by
  refine m_entry (own := RX0) (f := (fJ h)) hx (by decide) rfl (Nat.le_of_ble_eq_true rfl) (fun p e s m args below meth c C => ?_)
  show GO p l e _ s m args below meth c w 5 (fJ h) (f_X0_mixInto h o0 x1) 0 [(0, .ref (w.2.1 (o0))), (1, .long x1)] [] h
  unfold f_X0_mixInto
  refine g_aload_n (pc := 0) C 0 rfl dX0_mixInto_0 rfl ?_
  refine g_get (pc := 1) C (so_RX0 ho0) 0 fl_RX0_60 (v := .int (h.1 o0 0)) rfl dX0_mixInto_1 ?_
  refine g_if_ne (pc := 4) (tgt := 15) C dX0_mixInto_4 (by decide) (fun hc1 => ?_) (fun hc1 => ?_)
  · refine g_ldc2 (pc := 7) C wd_RX0_167 dX0_mixInto_7 ?_
    refine g_lload_n (pc := 10) C 1 rfl dX0_mixInto_10 rfl ?_
    refine g_lmul (pc := 11) C dX0_mixInto_11 ?_
    refine g_lconst (pc := 12) (v := 1) C dX0_mixInto_12 (by decide) ?_
    refine g_lsub (pc := 13) C dX0_mixInto_13 ?_
    exact g_lret C dX0_mixInto_14
  · refine g_iconst (pc := 15) (v := 0) C dX0_mixInto_15 kc_0 ?_
    refine g_istore_n (pc := 16) C dX0_mixInto_16 rfl (by decide) (lv' := [(3, .int (0 : Int32)), (0, .ref (w.2.1 (o0))), (1, .long x1)]) rfl ?_
    refine g_lv (lv' := [(0, .ref (w.2.1 (o0))), (1, .long x1), (3, .int (0 : Int32))]) [1, 2, 0] rfl ?_
    exact j_X0_mixInto_17 C h ho0 KF x1 (0 : Int32)
/-- SnowHouse.digest()J -/
def f_X7_digest_177 (h : TT)  (k155 : Int64 → Int32 → Option Int64) : Nat → Int64 → Int32 → Int32 → Option Int64
  | 0, _, _, _ => none
  | n + 1, x1, x3, x4 => if inb x3 4 = true then (if (h.1 14 x3.toNatClampNeg) ≤ x4 then k155 x1 (x3 + (1 : Int32)) else if inb x3 4 = true then if inb x4 80 = true then nm (((31 : Int64) * x1) + ((h.1 (10 + x3.toNatClampNeg) x4.toNatClampNeg).toInt64)) fun y13 => f_X7_digest_177 h k155 n y13 x3 (x4 + (1 : Int32)) else none else none) else none
set_option maxRecDepth 20000 in
theorem j_X7_digest_177 {p : Program} {l : Launch} {e : Env} {R : Room} {s : State} {m : MethodId} {args : Array Value} {below : List Frame} {meth : Method} {c : Code} {w : WK} (C : CX p R s m args meth c w RX7 cX7_digest 5 (some .long) 4 90) (h : TT)   {k155 : Int64 → Int32 → Option Int64} (hk155 : ∀ (x1 : Int64) (x3 : Int32) , GO p l e R s m args below meth c w 5 (fJ h) (k155 x1 x3) 155 [(0, .ref (w.2.1 (0))), (1, .long x1), (3, .int x3)] [] h) : ∀ (n : Nat) (x1 : Int64) (x3 : Int32) (x4 : Int32), GO p l e R s m args below meth c w 5 (fJ h) (f_X7_digest_177 h k155 n x1 x3 x4) 177 [(0, .ref (w.2.1 (0))), (1, .long x1), (3, .int x3), (4, .int x4)] [] h := by
  intro n
  induction n with
  | zero =>
    intro x1 x3 x4
    exact g_none
  | succ n ih =>
    intro x1 x3 x4
    rw [f_X7_digest_177]
    refine g_iload (pc := 177) C 3 rfl dX7_digest_177 ?_
    refine g_aload_n (pc := 179) C 0 rfl dX7_digest_179 rfl ?_
    refine g_get (pc := 180) C so_RX7 3 fl_RX7_29 (v := .ref (w.2.1 (14))) rfl dX7_digest_180 ?_
    refine g_iload_n (pc := 183) C 2 rfl dX7_digest_183 rfl ?_
    refine g_iald (pc := 184) C si_14 dX7_digest_184 (fun hb9 => ?_)
    refine g_icmp_ge (pc := 185) (tgt := 211) C dX7_digest_185 (by decide) (fun hc10 => ?_) (fun hc10 => ?_)
    · refine g_iinc (pc := 211) C 2 rfl dX7_digest_211 (ki_1 _) (by decide) (lv' := [(3, .int (x3 + (1 : Int32))), (0, .ref (w.2.1 (0))), (1, .long x1), (4, .int x4)]) rfl ?_
      refine g_goto (pc := 214) (tgt := 155) C dX7_digest_214 (by decide) ?_
      refine g_lv (lv' := [(0, .ref (w.2.1 (0))), (1, .long x1), (3, .int (x3 + (1 : Int32)))]) [1, 2, 0] rfl ?_
      exact hk155 x1 (x3 + (1 : Int32))
    · refine g_ldc2 (pc := 188) C wd_RX7_330 dX7_digest_188 ?_
      refine g_lload_n (pc := 191) C 1 rfl dX7_digest_191 rfl ?_
      refine g_lmul (pc := 192) C dX7_digest_192 ?_
      refine g_aload_n (pc := 193) C 0 rfl dX7_digest_193 rfl ?_
      refine g_get (pc := 194) C so_RX7 2 fl_RX7_26 (v := .ref (w.2.1 (9))) rfl dX7_digest_194 ?_
      refine g_iload_n (pc := 197) C 2 rfl dX7_digest_197 rfl ?_
      refine g_aald (pc := 198) (cA := 0) C sr_texts rfl rfl dX7_digest_198 (fun hb11 => ?_)
      refine g_iload (pc := 199) C 3 rfl dX7_digest_199 ?_
      refine g_bald (pc := 201) C (sbText hb11) dX7_digest_201 (fun hb12 => ?_)
      refine g_i2l (pc := 202) C dX7_digest_202 ?_
      refine g_ladd (pc := 203) C dX7_digest_203 ?_
      refine g_nmj (fun y13 => ?_)
      refine g_lstore_n (pc := 204) C dX7_digest_204 rfl (by decide) (lv' := [(1, .long y13), (0, .ref (w.2.1 (0))), (3, .int x3), (4, .int x4)]) rfl ?_
      refine g_iinc (pc := 205) C 3 rfl dX7_digest_205 (ki_1 _) (by decide) (lv' := [(4, .int (x4 + (1 : Int32))), (1, .long y13), (0, .ref (w.2.1 (0))), (3, .int x3)]) rfl ?_
      refine g_goto (pc := 208) (tgt := 177) C dX7_digest_208 (by decide) ?_
      refine g_lv (lv' := [(0, .ref (w.2.1 (0))), (1, .long y13), (3, .int x3), (4, .int (x4 + (1 : Int32)))]) [2, 1, 3, 0] rfl ?_
      exact ih y13 x3 (x4 + (1 : Int32))
def f_X7_digest_155 (h : TT)   : Nat → Int64 → Int32 → Option Int64
  | 0, _, _ => none
  | n + 1, x1, x3 => (if (4 : Int32) ≤ x3 then some x1 else if inb x3 4 = true then nm (((31 : Int64) * x1) + ((h.1 14 x3.toNatClampNeg).toInt64)) fun y8 => f_X7_digest_177 h (f_X7_digest_155 h n) KF y8 x3 (0 : Int32) else none)
set_option maxRecDepth 20000 in
theorem j_X7_digest_155 {p : Program} {l : Launch} {e : Env} {R : Room} {s : State} {m : MethodId} {args : Array Value} {below : List Frame} {meth : Method} {c : Code} {w : WK} (C : CX p R s m args meth c w RX7 cX7_digest 5 (some .long) 4 90) (h : TT)    : ∀ (n : Nat) (x1 : Int64) (x3 : Int32), GO p l e R s m args below meth c w 5 (fJ h) (f_X7_digest_155 h n x1 x3) 155 [(0, .ref (w.2.1 (0))), (1, .long x1), (3, .int x3)] [] h := by
  intro n
  induction n with
  | zero =>
    intro x1 x3
    exact g_none
  | succ n ih =>
    intro x1 x3
    rw [f_X7_digest_155]
    refine g_iload_n (pc := 155) C 2 rfl dX7_digest_155 rfl ?_
    refine g_iconst (pc := 156) (v := 4) C dX7_digest_156 kc_4 ?_
    refine g_icmp_ge (pc := 157) (tgt := 217) C dX7_digest_157 (by decide) (fun hc6 => ?_) (fun hc6 => ?_)
    · refine g_lload_n (pc := 217) C 1 rfl dX7_digest_217 rfl ?_
      exact g_lret C dX7_digest_218
    · refine g_ldc2 (pc := 160) C wd_RX7_330 dX7_digest_160 ?_
      refine g_lload_n (pc := 163) C 1 rfl dX7_digest_163 rfl ?_
      refine g_lmul (pc := 164) C dX7_digest_164 ?_
      refine g_aload_n (pc := 165) C 0 rfl dX7_digest_165 rfl ?_
      refine g_get (pc := 166) C so_RX7 3 fl_RX7_29 (v := .ref (w.2.1 (14))) rfl dX7_digest_166 ?_
      refine g_iload_n (pc := 169) C 2 rfl dX7_digest_169 rfl ?_
      refine g_iald (pc := 170) C si_14 dX7_digest_170 (fun hb7 => ?_)
      refine g_i2l (pc := 171) C dX7_digest_171 ?_
      refine g_ladd (pc := 172) C dX7_digest_172 ?_
      refine g_nmj (fun y8 => ?_)
      refine g_lstore_n (pc := 173) C dX7_digest_173 rfl (by decide) (lv' := [(1, .long y8), (0, .ref (w.2.1 (0))), (3, .int x3)]) rfl ?_
      refine g_iconst (pc := 174) (v := 0) C dX7_digest_174 kc_0 ?_
      refine g_istore (pc := 175) C dX7_digest_175 (by decide) (lv' := [(4, .int (0 : Int32)), (1, .long y8), (0, .ref (w.2.1 (0))), (3, .int x3)]) rfl ?_
      refine g_lv (lv' := [(0, .ref (w.2.1 (0))), (1, .long y8), (3, .int x3), (4, .int (0 : Int32))]) [2, 1, 3, 0] rfl ?_
      exact j_X7_digest_177 C h ih KF y8 x3 (0 : Int32)
def f_X7_digest_113 (h : TT)  (k90 : Int64 → Int32 → Option Int64) : Nat → Int64 → Int32 → Int32 → Option Int64
  | 0, _, _, _ => none
  | n + 1, x1, x3, x4 => if inb x3 6 = true then (if (h.1 8 x3.toNatClampNeg) ≤ x4 then k90 x1 (x3 + (1 : Int32)) else if inb x3 6 = true then if inb x4 60 = true then nm (((31 : Int64) * x1) + ((h.1 (2 + x3.toNatClampNeg) x4.toNatClampNeg).toInt64)) fun y20 => f_X7_digest_113 h k90 n y20 x3 (x4 + (1 : Int32)) else none else none) else none
set_option maxRecDepth 20000 in
theorem j_X7_digest_113 {p : Program} {l : Launch} {e : Env} {R : Room} {s : State} {m : MethodId} {args : Array Value} {below : List Frame} {meth : Method} {c : Code} {w : WK} (C : CX p R s m args meth c w RX7 cX7_digest 5 (some .long) 4 90) (h : TT)   {k90 : Int64 → Int32 → Option Int64} (hk90 : ∀ (x1 : Int64) (x3 : Int32) , GO p l e R s m args below meth c w 5 (fJ h) (k90 x1 x3) 90 [(0, .ref (w.2.1 (0))), (1, .long x1), (3, .int x3)] [] h) : ∀ (n : Nat) (x1 : Int64) (x3 : Int32) (x4 : Int32), GO p l e R s m args below meth c w 5 (fJ h) (f_X7_digest_113 h k90 n x1 x3 x4) 113 [(0, .ref (w.2.1 (0))), (1, .long x1), (3, .int x3), (4, .int x4)] [] h := by
  intro n
  induction n with
  | zero =>
    intro x1 x3 x4
    exact g_none
  | succ n ih =>
    intro x1 x3 x4
    rw [f_X7_digest_113]
    refine g_iload (pc := 113) C 3 rfl dX7_digest_113 ?_
    refine g_aload_n (pc := 115) C 0 rfl dX7_digest_115 rfl ?_
    refine g_get (pc := 116) C so_RX7 1 fl_RX7_14 (v := .ref (w.2.1 (8))) rfl dX7_digest_116 ?_
    refine g_iload_n (pc := 119) C 2 rfl dX7_digest_119 rfl ?_
    refine g_iald (pc := 120) C si_8 dX7_digest_120 (fun hb16 => ?_)
    refine g_icmp_ge (pc := 121) (tgt := 147) C dX7_digest_121 (by decide) (fun hc17 => ?_) (fun hc17 => ?_)
    · refine g_iinc (pc := 147) C 2 rfl dX7_digest_147 (ki_1 _) (by decide) (lv' := [(3, .int (x3 + (1 : Int32))), (0, .ref (w.2.1 (0))), (1, .long x1), (4, .int x4)]) rfl ?_
      refine g_goto (pc := 150) (tgt := 90) C dX7_digest_150 (by decide) ?_
      refine g_lv (lv' := [(0, .ref (w.2.1 (0))), (1, .long x1), (3, .int (x3 + (1 : Int32)))]) [1, 2, 0] rfl ?_
      exact hk90 x1 (x3 + (1 : Int32))
    · refine g_ldc2 (pc := 124) C wd_RX7_330 dX7_digest_124 ?_
      refine g_lload_n (pc := 127) C 1 rfl dX7_digest_127 rfl ?_
      refine g_lmul (pc := 128) C dX7_digest_128 ?_
      refine g_aload_n (pc := 129) C 0 rfl dX7_digest_129 rfl ?_
      refine g_get (pc := 130) C so_RX7 0 fl_RX7_11 (v := .ref (w.2.1 (1))) rfl dX7_digest_130 ?_
      refine g_iload_n (pc := 133) C 2 rfl dX7_digest_133 rfl ?_
      refine g_aald (pc := 134) (cA := 0) C sr_rows rfl rfl dX7_digest_134 (fun hb18 => ?_)
      refine g_iload (pc := 135) C 3 rfl dX7_digest_135 ?_
      refine g_iald (pc := 137) C (siRow hb18) dX7_digest_137 (fun hb19 => ?_)
      refine g_i2l (pc := 138) C dX7_digest_138 ?_
      refine g_ladd (pc := 139) C dX7_digest_139 ?_
      refine g_nmj (fun y20 => ?_)
      refine g_lstore_n (pc := 140) C dX7_digest_140 rfl (by decide) (lv' := [(1, .long y20), (0, .ref (w.2.1 (0))), (3, .int x3), (4, .int x4)]) rfl ?_
      refine g_iinc (pc := 141) C 3 rfl dX7_digest_141 (ki_1 _) (by decide) (lv' := [(4, .int (x4 + (1 : Int32))), (1, .long y20), (0, .ref (w.2.1 (0))), (3, .int x3)]) rfl ?_
      refine g_goto (pc := 144) (tgt := 113) C dX7_digest_144 (by decide) ?_
      refine g_lv (lv' := [(0, .ref (w.2.1 (0))), (1, .long y20), (3, .int x3), (4, .int (x4 + (1 : Int32)))]) [2, 1, 3, 0] rfl ?_
      exact ih y20 x3 (x4 + (1 : Int32))
def f_X7_digest_90 (h : TT)   : Nat → Int64 → Int32 → Option Int64
  | 0, _, _ => none
  | n + 1, x1, x3 => (if (6 : Int32) ≤ x3 then f_X7_digest_155 h KF x1 (0 : Int32) else if inb x3 6 = true then nm (((31 : Int64) * x1) + ((h.1 8 x3.toNatClampNeg).toInt64)) fun y15 => f_X7_digest_113 h (f_X7_digest_90 h n) KF y15 x3 (0 : Int32) else none)
set_option maxRecDepth 20000 in
theorem j_X7_digest_90 {p : Program} {l : Launch} {e : Env} {R : Room} {s : State} {m : MethodId} {args : Array Value} {below : List Frame} {meth : Method} {c : Code} {w : WK} (C : CX p R s m args meth c w RX7 cX7_digest 5 (some .long) 4 90) (h : TT)    : ∀ (n : Nat) (x1 : Int64) (x3 : Int32), GO p l e R s m args below meth c w 5 (fJ h) (f_X7_digest_90 h n x1 x3) 90 [(0, .ref (w.2.1 (0))), (1, .long x1), (3, .int x3)] [] h := by
  intro n
  induction n with
  | zero =>
    intro x1 x3
    exact g_none
  | succ n ih =>
    intro x1 x3
    rw [f_X7_digest_90]
    refine g_iload_n (pc := 90) C 2 rfl dX7_digest_90 rfl ?_
    refine g_bipush (pc := 91) (v := 6) C dX7_digest_91 kb_6 ?_
    refine g_icmp_ge (pc := 93) (tgt := 153) C dX7_digest_93 (by decide) (fun hc5 => ?_) (fun hc5 => ?_)
    · refine g_iconst (pc := 153) (v := 0) C dX7_digest_153 kc_0 ?_
      refine g_istore_n (pc := 154) C dX7_digest_154 rfl (by decide) (lv' := [(3, .int (0 : Int32)), (0, .ref (w.2.1 (0))), (1, .long x1)]) rfl ?_
      refine g_lv (lv' := [(0, .ref (w.2.1 (0))), (1, .long x1), (3, .int (0 : Int32))]) [1, 2, 0] rfl ?_
      exact j_X7_digest_155 C h KF x1 (0 : Int32)
    · refine g_ldc2 (pc := 96) C wd_RX7_330 dX7_digest_96 ?_
      refine g_lload_n (pc := 99) C 1 rfl dX7_digest_99 rfl ?_
      refine g_lmul (pc := 100) C dX7_digest_100 ?_
      refine g_aload_n (pc := 101) C 0 rfl dX7_digest_101 rfl ?_
      refine g_get (pc := 102) C so_RX7 1 fl_RX7_14 (v := .ref (w.2.1 (8))) rfl dX7_digest_102 ?_
      refine g_iload_n (pc := 105) C 2 rfl dX7_digest_105 rfl ?_
      refine g_iald (pc := 106) C si_8 dX7_digest_106 (fun hb14 => ?_)
      refine g_i2l (pc := 107) C dX7_digest_107 ?_
      refine g_ladd (pc := 108) C dX7_digest_108 ?_
      refine g_nmj (fun y15 => ?_)
      refine g_lstore_n (pc := 109) C dX7_digest_109 rfl (by decide) (lv' := [(1, .long y15), (0, .ref (w.2.1 (0))), (3, .int x3)]) rfl ?_
      refine g_iconst (pc := 110) (v := 0) C dX7_digest_110 kc_0 ?_
      refine g_istore (pc := 111) C dX7_digest_111 (by decide) (lv' := [(4, .int (0 : Int32)), (1, .long y15), (0, .ref (w.2.1 (0))), (3, .int x3)]) rfl ?_
      refine g_lv (lv' := [(0, .ref (w.2.1 (0))), (1, .long y15), (3, .int x3), (4, .int (0 : Int32))]) [2, 1, 3, 0] rfl ?_
      exact j_X7_digest_113 C h ih KF y15 x3 (0 : Int32)
def f_X7_digest_57 (h : TT)   : Nat → Int64 → Int32 → Option Int64
  | 0, _, _ => none
  | n + 1, x1, x3 => (if (4 : Int32) ≤ x3 then (f_X0_mixInto h 41 x1).bind fun r4 => f_X7_digest_90 h KF r4 (0 : Int32) else if inb x3 4 = true then (f_X3_mixInto h (25 + 4 * x3.toNatClampNeg) x1).bind fun r22 => f_X7_digest_57 h n r22 (x3 + (1 : Int32)) else none)
set_option maxRecDepth 20000 in
theorem j_X7_digest_57 {p : Program} {l : Launch} {e : Env} {R : Room} {s : State} {m : MethodId} {args : Array Value} {below : List Frame} {meth : Method} {c : Code} {w : WK} (C : CX p R s m args meth c w RX7 cX7_digest 5 (some .long) 4 90) (h : TT)    : ∀ (n : Nat) (x1 : Int64) (x3 : Int32), GO p l e R s m args below meth c w 5 (fJ h) (f_X7_digest_57 h n x1 x3) 57 [(0, .ref (w.2.1 (0))), (1, .long x1), (3, .int x3)] [] h := by
  intro n
  induction n with
  | zero =>
    intro x1 x3
    exact g_none
  | succ n ih =>
    intro x1 x3
    rw [f_X7_digest_57]
    refine g_iload_n (pc := 57) C 2 rfl dX7_digest_57 rfl ?_
    refine g_iconst (pc := 58) (v := 4) C dX7_digest_58 kc_4 ?_
    refine g_icmp_ge (pc := 59) (tgt := 79) C dX7_digest_59 (by decide) (fun hc3 => ?_) (fun hc3 => ?_)
    · refine g_aload_n (pc := 79) C 0 rfl dX7_digest_79 rfl ?_
      refine g_get (pc := 80) C so_RX7 6 fl_RX7_49 (v := .ref (w.2.1 (41))) rfl dX7_digest_80 ?_
      refine g_lload_n (pc := 83) C 1 rfl dX7_digest_83 rfl ?_
      refine g_callJ (pc := 84) (rest := []) (g_runV C mv_RX7_337 (fun x1 hx1 => m_X0_mixInto hx1 isB41) (so_RX0 isB41) rfl (by decide) rfl rfl (Nat.le_of_ble_eq_true rfl) dX7_digest_84) (fun r4 => ?_)
      refine g_lstore_n (pc := 87) C dX7_digest_87 rfl (by decide) (lv' := [(1, .long r4), (0, .ref (w.2.1 (0))), (3, .int x3)]) rfl ?_
      refine g_iconst (pc := 88) (v := 0) C dX7_digest_88 kc_0 ?_
      refine g_istore_n (pc := 89) C dX7_digest_89 rfl (by decide) (lv' := [(3, .int (0 : Int32)), (1, .long r4), (0, .ref (w.2.1 (0)))]) rfl ?_
      refine g_lv (lv' := [(0, .ref (w.2.1 (0))), (1, .long r4), (3, .int (0 : Int32))]) [2, 1, 0] rfl ?_
      exact j_X7_digest_90 C h KF r4 (0 : Int32)
    · refine g_aload_n (pc := 62) C 0 rfl dX7_digest_62 rfl ?_
      refine g_get (pc := 63) C so_RX7 5 fl_RX7_41 (v := .ref (w.2.1 (24))) rfl dX7_digest_63 ?_
      refine g_iload_n (pc := 66) C 2 rfl dX7_digest_66 rfl ?_
      refine g_aald (pc := 67) (cA := 0) C sr_plans rfl rfl dX7_digest_67 (fun hb21 => ?_)
      refine g_lload_n (pc := 68) C 1 rfl dX7_digest_68 rfl ?_
      refine g_callJ (pc := 69) (rest := []) (g_runV C mv_RX7_336 (fun x1 hx1 => m_X3_mixInto hx1 (isPl hb21)) (so_RX3 (isPl hb21)) rfl (by decide) rfl rfl (Nat.le_of_ble_eq_true rfl) dX7_digest_69) (fun r22 => ?_)
      refine g_lstore_n (pc := 72) C dX7_digest_72 rfl (by decide) (lv' := [(1, .long r22), (0, .ref (w.2.1 (0))), (3, .int x3)]) rfl ?_
      refine g_iinc (pc := 73) C 2 rfl dX7_digest_73 (ki_1 _) (by decide) (lv' := [(3, .int (x3 + (1 : Int32))), (1, .long r22), (0, .ref (w.2.1 (0)))]) rfl ?_
      refine g_goto (pc := 76) (tgt := 57) C dX7_digest_76 (by decide) ?_
      refine g_lv (lv' := [(0, .ref (w.2.1 (0))), (1, .long r22), (3, .int (x3 + (1 : Int32)))]) [2, 1, 0] rfl ?_
      exact ih r22 (x3 + (1 : Int32))
def f_X7_digest_33 (h : TT)   : Nat → Int64 → Int32 → Option Int64
  | 0, _, _ => none
  | n + 1, x1, x3 => (if (4 : Int32) ≤ x3 then f_X7_digest_57 h KF x1 (0 : Int32) else if inb x3 4 = true then (f_X5_mixInto h (16 + 2 * x3.toNatClampNeg) x1).bind fun r24 => f_X7_digest_33 h n r24 (x3 + (1 : Int32)) else none)
set_option maxRecDepth 20000 in
theorem j_X7_digest_33 {p : Program} {l : Launch} {e : Env} {R : Room} {s : State} {m : MethodId} {args : Array Value} {below : List Frame} {meth : Method} {c : Code} {w : WK} (C : CX p R s m args meth c w RX7 cX7_digest 5 (some .long) 4 90) (h : TT)    : ∀ (n : Nat) (x1 : Int64) (x3 : Int32), GO p l e R s m args below meth c w 5 (fJ h) (f_X7_digest_33 h n x1 x3) 33 [(0, .ref (w.2.1 (0))), (1, .long x1), (3, .int x3)] [] h := by
  intro n
  induction n with
  | zero =>
    intro x1 x3
    exact g_none
  | succ n ih =>
    intro x1 x3
    rw [f_X7_digest_33]
    refine g_iload_n (pc := 33) C 2 rfl dX7_digest_33 rfl ?_
    refine g_iconst (pc := 34) (v := 4) C dX7_digest_34 kc_4 ?_
    refine g_icmp_ge (pc := 35) (tgt := 55) C dX7_digest_35 (by decide) (fun hc2 => ?_) (fun hc2 => ?_)
    · refine g_iconst (pc := 55) (v := 0) C dX7_digest_55 kc_0 ?_
      refine g_istore_n (pc := 56) C dX7_digest_56 rfl (by decide) (lv' := [(3, .int (0 : Int32)), (0, .ref (w.2.1 (0))), (1, .long x1)]) rfl ?_
      refine g_lv (lv' := [(0, .ref (w.2.1 (0))), (1, .long x1), (3, .int (0 : Int32))]) [1, 2, 0] rfl ?_
      exact j_X7_digest_57 C h KF x1 (0 : Int32)
    · refine g_aload_n (pc := 38) C 0 rfl dX7_digest_38 rfl ?_
      refine g_get (pc := 39) C so_RX7 4 fl_RX7_34 (v := .ref (w.2.1 (15))) rfl dX7_digest_39 ?_
      refine g_iload_n (pc := 42) C 2 rfl dX7_digest_42 rfl ?_
      refine g_aald (pc := 43) (cA := 0) C sr_snows rfl rfl dX7_digest_43 (fun hb23 => ?_)
      refine g_lload_n (pc := 44) C 1 rfl dX7_digest_44 rfl ?_
      refine g_callJ (pc := 45) (rest := []) (g_runV C mv_RX7_332 (fun x1 hx1 => m_X5_mixInto hx1 (isSn hb23)) (so_RX5 (isSn hb23)) rfl (by decide) rfl rfl (Nat.le_of_ble_eq_true rfl) dX7_digest_45) (fun r24 => ?_)
      refine g_lstore_n (pc := 48) C dX7_digest_48 rfl (by decide) (lv' := [(1, .long r24), (0, .ref (w.2.1 (0))), (3, .int x3)]) rfl ?_
      refine g_iinc (pc := 49) C 2 rfl dX7_digest_49 (ki_1 _) (by decide) (lv' := [(3, .int (x3 + (1 : Int32))), (1, .long r24), (0, .ref (w.2.1 (0)))]) rfl ?_
      refine g_goto (pc := 52) (tgt := 33) C dX7_digest_52 (by decide) ?_
      refine g_lv (lv' := [(0, .ref (w.2.1 (0))), (1, .long r24), (3, .int (x3 + (1 : Int32)))]) [2, 1, 0] rfl ?_
      exact ih r24 (x3 + (1 : Int32))
def f_X7_digest_6 (h : TT)   : Nat → Int64 → Int32 → Option Int64
  | 0, _, _ => none
  | n + 1, x1, x3 => (if (8 : Int32) ≤ x3 then f_X7_digest_33 h KF x1 (0 : Int32) else (f_X7_counted h x3).bind fun r25 => nm (((31 : Int64) * x1) + r25.toInt64) fun y26 => f_X7_digest_6 h n y26 (x3 + (1 : Int32)))
set_option maxRecDepth 20000 in
theorem j_X7_digest_6 {p : Program} {l : Launch} {e : Env} {R : Room} {s : State} {m : MethodId} {args : Array Value} {below : List Frame} {meth : Method} {c : Code} {w : WK} (C : CX p R s m args meth c w RX7 cX7_digest 5 (some .long) 4 90) (h : TT)    : ∀ (n : Nat) (x1 : Int64) (x3 : Int32), GO p l e R s m args below meth c w 5 (fJ h) (f_X7_digest_6 h n x1 x3) 6 [(0, .ref (w.2.1 (0))), (1, .long x1), (3, .int x3)] [] h := by
  intro n
  induction n with
  | zero =>
    intro x1 x3
    exact g_none
  | succ n ih =>
    intro x1 x3
    rw [f_X7_digest_6]
    refine g_iload_n (pc := 6) C 2 rfl dX7_digest_6 rfl ?_
    refine g_bipush (pc := 7) (v := 8) C dX7_digest_7 kb_8 ?_
    refine g_icmp_ge (pc := 9) (tgt := 31) C dX7_digest_9 (by decide) (fun hc1 => ?_) (fun hc1 => ?_)
    · refine g_iconst (pc := 31) (v := 0) C dX7_digest_31 kc_0 ?_
      refine g_istore_n (pc := 32) C dX7_digest_32 rfl (by decide) (lv' := [(3, .int (0 : Int32)), (0, .ref (w.2.1 (0))), (1, .long x1)]) rfl ?_
      refine g_lv (lv' := [(0, .ref (w.2.1 (0))), (1, .long x1), (3, .int (0 : Int32))]) [1, 2, 0] rfl ?_
      exact j_X7_digest_33 C h KF x1 (0 : Int32)
    · refine g_ldc2 (pc := 12) C wd_RX7_330 dX7_digest_12 ?_
      refine g_lload_n (pc := 15) C 1 rfl dX7_digest_15 rfl ?_
      refine g_lmul (pc := 16) C dX7_digest_16 ?_
      refine g_aload_n (pc := 17) C 0 rfl dX7_digest_17 rfl ?_
      refine g_iload_n (pc := 18) C 2 rfl dX7_digest_18 rfl ?_
      refine g_callI (pc := 19) (rest := [.long ((31 : Int64) * x1)]) (g_runV C mv_RX7_325 (fun x1 hx1 => m_X7_counted hx1) so_RX7 rfl (by decide) rfl rfl (Nat.le_of_ble_eq_true rfl) dX7_digest_19) (fun r25 => ?_)
      refine g_i2l (pc := 22) C dX7_digest_22 ?_
      refine g_ladd (pc := 23) C dX7_digest_23 ?_
      refine g_nmj (fun y26 => ?_)
      refine g_lstore_n (pc := 24) C dX7_digest_24 rfl (by decide) (lv' := [(1, .long y26), (0, .ref (w.2.1 (0))), (3, .int x3)]) rfl ?_
      refine g_iinc (pc := 25) C 2 rfl dX7_digest_25 (ki_1 _) (by decide) (lv' := [(3, .int (x3 + (1 : Int32))), (1, .long y26), (0, .ref (w.2.1 (0)))]) rfl ?_
      refine g_goto (pc := 28) (tgt := 6) C dX7_digest_28 (by decide) ?_
      refine g_lv (lv' := [(0, .ref (w.2.1 (0))), (1, .long y26), (3, .int (x3 + (1 : Int32)))]) [2, 1, 0] rfl ?_
      exact ih y26 (x3 + (1 : Int32))
def f_X7_digest (h : TT)  : Option Int64 := f_X7_digest_6 h KF (17 : Int64) (0 : Int32)
set_option maxRecDepth 20000 in
theorem m_X7_digest {l : Launch} {w : WK} {h : TT}  {x : Int64} (hx : f_X7_digest h  = some x)  : Met l yX7_digest (Cond.code yX7_digest cX7_digest 5 (some .long) :: wsG) { frames := 4, cells := 0, slots := 0, locals := 90 } (PG w [.ref (w.2.1 (0))] h) (QG w ((fJ h) x)) 0 0 (AA w) := by
  refine m_entry (own := RX7) (f := (fJ h)) hx (by decide) rfl (Nat.le_of_ble_eq_true rfl) (fun p e s m args below meth c C => ?_)
  show GO p l e _ s m args below meth c w 5 (fJ h) (f_X7_digest h ) 0 [(0, .ref (w.2.1 (0)))] [] h
  unfold f_X7_digest
  refine g_ldc2 (pc := 0) C wd_RX7_328 dX7_digest_0 ?_
  refine g_lstore_n (pc := 3) C dX7_digest_3 rfl (by decide) (lv' := [(1, .long (17 : Int64)), (0, .ref (w.2.1 (0)))]) rfl ?_
  refine g_iconst (pc := 4) (v := 0) C dX7_digest_4 kc_0 ?_
  refine g_istore_n (pc := 5) C dX7_digest_5 rfl (by decide) (lv' := [(3, .int (0 : Int32)), (1, .long (17 : Int64)), (0, .ref (w.2.1 (0)))]) rfl ?_
  refine g_lv (lv' := [(0, .ref (w.2.1 (0))), (1, .long (17 : Int64)), (3, .int (0 : Int32))]) [2, 1, 0] rfl ?_
  exact j_X7_digest_6 C h KF (17 : Int64) (0 : Int32)
/-- SnowHouseModel.in(III)Z -/
def f_X8_in (h : TT) (x0 : Int32) (x1 : Int32) (x2 : Int32) : Option Int32 := (if x0 < x1 then some (0 : Int32) else (if x2 < x0 then some (0 : Int32) else some (1 : Int32)))
set_option maxRecDepth 20000 in
theorem m_X8_in {l : Launch} {w : WK} {h : TT} {x0 : Int32} {x1 : Int32} {x2 : Int32} {x : Int32} (hx : f_X8_in h x0 x1 x2 = some x)  : Met l yX8_in (Cond.code yX8_in cX8_in 3 (some .boolean) :: wsG) { frames := 0, cells := 0, slots := 0, locals := 0 } (PG w [.int x0, .int x1, .int x2] h) (QG w ((fI h) x)) 0 0 (AA w) := by
  refine m_entry (own := RX8) (f := (fI h)) hx (by decide) rfl (Nat.le_of_ble_eq_true rfl) (fun p e s m args below meth c C => ?_)
  show GO p l e _ s m args below meth c w 3 (fI h) (f_X8_in h x0 x1 x2) 0 [(0, .int x0), (1, .int x1), (2, .int x2)] [] h
  unfold f_X8_in
  refine g_iload_n (pc := 0) C 0 rfl dX8_in_0 rfl ?_
  refine g_iload_n (pc := 1) C 1 rfl dX8_in_1 rfl ?_
  refine g_icmp_lt (pc := 2) (tgt := 14) C dX8_in_2 (by decide) (fun hc1 => ?_) (fun hc1 => ?_)
  · refine g_iconst (pc := 14) (v := 0) C dX8_in_14 kc_0 ?_
    exact g_zret C dX8_in_15 rfl
  · refine g_iload_n (pc := 5) C 0 rfl dX8_in_5 rfl ?_
    refine g_iload_n (pc := 6) C 2 rfl dX8_in_6 rfl ?_
    refine g_icmp_gt (pc := 7) (tgt := 14) C dX8_in_7 (by decide) (fun hc2 => ?_) (fun hc2 => ?_)
    · refine g_iconst (pc := 14) (v := 0) C dX8_in_14 kc_0 ?_
      exact g_zret C dX8_in_15 rfl
    · refine g_iconst (pc := 10) (v := 1) C dX8_in_10 kc_1 ?_
      refine g_goto (pc := 11) (tgt := 15) C dX8_in_11 (by decide) ?_
      exact g_zret C dX8_in_15 rfl
/-- SnowHouseModel.lesser(II)I -/
def f_X8_lesser (h : TT) (x0 : Int32) (x1 : Int32) : Option Int32 := (if x1 ≤ x0 then some x1 else some x0)
set_option maxRecDepth 20000 in
theorem m_X8_lesser {l : Launch} {w : WK} {h : TT} {x0 : Int32} {x1 : Int32} {x : Int32} (hx : f_X8_lesser h x0 x1 = some x)  : Met l yX8_lesser (Cond.code yX8_lesser cX8_lesser 2 (some .int) :: wsG) { frames := 0, cells := 0, slots := 0, locals := 0 } (PG w [.int x0, .int x1] h) (QG w ((fI h) x)) 0 0 (AA w) := by
  refine m_entry (own := RX8) (f := (fI h)) hx (by decide) rfl (Nat.le_of_ble_eq_true rfl) (fun p e s m args below meth c C => ?_)
  show GO p l e _ s m args below meth c w 2 (fI h) (f_X8_lesser h x0 x1) 0 [(0, .int x0), (1, .int x1)] [] h
  unfold f_X8_lesser
  refine g_iload_n (pc := 0) C 0 rfl dX8_lesser_0 rfl ?_
  refine g_iload_n (pc := 1) C 1 rfl dX8_lesser_1 rfl ?_
  refine g_icmp_ge (pc := 2) (tgt := 9) C dX8_lesser_2 (by decide) (fun hc1 => ?_) (fun hc1 => ?_)
  · refine g_iload_n (pc := 9) C 1 rfl dX8_lesser_9 rfl ?_
    exact g_iret C dX8_lesser_10
  · refine g_iload_n (pc := 5) C 0 rfl dX8_lesser_5 rfl ?_
    refine g_goto (pc := 6) (tgt := 10) C dX8_lesser_6 (by decide) ?_
    exact g_iret C dX8_lesser_10
/-- SnowHouseModel.greater(II)I -/
def f_X8_greater (h : TT) (x0 : Int32) (x1 : Int32) : Option Int32 := (if x0 ≤ x1 then some x1 else some x0)
set_option maxRecDepth 20000 in
theorem m_X8_greater {l : Launch} {w : WK} {h : TT} {x0 : Int32} {x1 : Int32} {x : Int32} (hx : f_X8_greater h x0 x1 = some x)  : Met l yX8_greater (Cond.code yX8_greater cX8_greater 2 (some .int) :: wsG) { frames := 0, cells := 0, slots := 0, locals := 0 } (PG w [.int x0, .int x1] h) (QG w ((fI h) x)) 0 0 (AA w) := by
  refine m_entry (own := RX8) (f := (fI h)) hx (by decide) rfl (Nat.le_of_ble_eq_true rfl) (fun p e s m args below meth c C => ?_)
  show GO p l e _ s m args below meth c w 2 (fI h) (f_X8_greater h x0 x1) 0 [(0, .int x0), (1, .int x1)] [] h
  unfold f_X8_greater
  refine g_iload_n (pc := 0) C 0 rfl dX8_greater_0 rfl ?_
  refine g_iload_n (pc := 1) C 1 rfl dX8_greater_1 rfl ?_
  refine g_icmp_le (pc := 2) (tgt := 9) C dX8_greater_2 (by decide) (fun hc1 => ?_) (fun hc1 => ?_)
  · refine g_iload_n (pc := 9) C 1 rfl dX8_greater_9 rfl ?_
    exact g_iret C dX8_greater_10
  · refine g_iload_n (pc := 5) C 0 rfl dX8_greater_5 rfl ?_
    refine g_goto (pc := 6) (tgt := 10) C dX8_greater_6 (by decide) ?_
    exact g_iret C dX8_greater_10
/-- SnowHouseModel.meets(I)I -/
def f_X8_meets (h : TT) (x1 : Int32) : Option (Int32 × TT) := nm (wr h 147 0 x1) fun h1 => if inb x1 6 = true then if inb x1 6 = true then nm (wr h1 148 x1.toNatClampNeg ((h1.1 148 x1.toNatClampNeg) + (1 : Int32))) fun h4 => some ((-3 : Int32), h4) else none else none
set_option maxRecDepth 20000 in
theorem m_X8_meets {l : Launch} {w : WK} {h : TT} {x1 : Int32} {x : (Int32 × TT)} (hx : f_X8_meets h x1 = some x)  : Met l yX8_meets (Cond.code yX8_meets cX8_meets 2 (some .int) :: wsG) { frames := 0, cells := 0, slots := 0, locals := 0 } (PG w [.ref (w.2.1 (147)), .int x1] h) (QG w (fIT x)) 0 0 (AA w) := by
  refine m_entry (own := RX8) (f := fIT) hx (by decide) rfl (Nat.le_of_ble_eq_true rfl) (fun p e s m args below meth c C => ?_)
  show GO p l e _ s m args below meth c w 2 fIT (f_X8_meets h x1) 0 [(0, .ref (w.2.1 (147))), (1, .int x1)] [] h
  unfold f_X8_meets
  refine g_aload_n (pc := 0) C 0 rfl dX8_meets_0 rfl ?_
  refine g_iload_n (pc := 1) C 1 rfl dX8_meets_1 rfl ?_
  refine g_putI (pc := 2) C so_RX8 0 fp_RX8_67 (se_RX8_0 _) rfl rfl (sl_RX8_0) dX8_meets_2 ?_
  refine g_nm (fun h1 => ?_)
  refine g_aload_n (pc := 5) C 0 rfl dX8_meets_5 rfl ?_
  refine g_get (pc := 6) C so_RX8 1 fl_RX8_7 (v := .ref (w.2.1 (148))) rfl dX8_meets_6 ?_
  refine g_iload_n (pc := 9) C 1 rfl dX8_meets_9 rfl ?_
  refine g_dup2 (pc := 10) C dX8_meets_10 rfl rfl ?_
  refine g_iald (pc := 11) C si_148 dX8_meets_11 (fun hb2 => ?_)
  refine g_iconst (pc := 12) (v := 1) C dX8_meets_12 kc_1 ?_
  refine g_iadd (pc := 13) C dX8_meets_13 ?_
  refine g_iast (pc := 14) C si_148 dX8_meets_14 (fun hb3 => ?_)
  refine g_nm (fun h4 => ?_)
  refine g_bipush (pc := 15) (v := -3) C dX8_meets_15 kb_m3 ?_
  exact g_iretT C dX8_meets_17
/-- SnowHouseModel.finding()I -/
def f_X8_finding (h : TT)  : Option Int32 := some (h.1 147 0)
set_option maxRecDepth 20000 in
theorem m_X8_finding {l : Launch} {w : WK} {h : TT}  {x : Int32} (hx : f_X8_finding h  = some x)  : Met l yX8_finding (Cond.code yX8_finding cX8_finding 1 (some .int) :: wsG) { frames := 0, cells := 0, slots := 0, locals := 0 } (PG w [.ref (w.2.1 (147))] h) (QG w ((fI h) x)) 0 0 (AA w) := by
  refine m_entry (own := RX8) (f := (fI h)) hx (by decide) rfl (Nat.le_of_ble_eq_true rfl) (fun p e s m args below meth c C => ?_)
  show GO p l e _ s m args below meth c w 1 (fI h) (f_X8_finding h ) 0 [(0, .ref (w.2.1 (147)))] [] h
  unfold f_X8_finding
  refine g_aload_n (pc := 0) C 0 rfl dX8_finding_0 rfl ?_
  refine g_get (pc := 1) C so_RX8 0 fl_RX8_67 (v := .int (h.1 147 0)) rfl dX8_finding_1 ?_
  exact g_iret C dX8_finding_4
/-- SnowHouseModel.findings(I)I -/
def f_X8_findings (h : TT) (x1 : Int32) : Option Int32 := (f_X8_in h x1 (1 : Int32) (5 : Int32)).bind fun r1 => (if r1 = 0 then some (-1 : Int32) else if inb x1 6 = true then some (h.1 148 x1.toNatClampNeg) else none)
set_option maxRecDepth 20000 in
theorem m_X8_findings {l : Launch} {w : WK} {h : TT} {x1 : Int32} {x : Int32} (hx : f_X8_findings h x1 = some x)  : Met l yX8_findings (Cond.code yX8_findings cX8_findings 2 (some .int) :: wsG) { frames := 1, cells := 0, slots := 0, locals := 22 } (PG w [.ref (w.2.1 (147)), .int x1] h) (QG w ((fI h) x)) 0 0 (AA w) := by
  refine m_entry (own := RX8) (f := (fI h)) hx (by decide) rfl (Nat.le_of_ble_eq_true rfl) (fun p e s m args below meth c C => ?_)
  show GO p l e _ s m args below meth c w 2 (fI h) (f_X8_findings h x1) 0 [(0, .ref (w.2.1 (147))), (1, .int x1)] [] h
  unfold f_X8_findings
  refine g_iload_n (pc := 0) C 1 rfl dX8_findings_0 rfl ?_
  refine g_iconst (pc := 1) (v := 1) C dX8_findings_1 kc_1 ?_
  refine g_iconst (pc := 2) (v := 5) C dX8_findings_2 kc_5 ?_
  refine g_callI (pc := 3) (rest := []) (g_runS C ms_RX8_71 (fun x1 hx1 => m_X8_in hx1) (by decide) rfl rfl (Nat.le_of_ble_eq_true rfl) dX8_findings_3) (fun r1 => ?_)
  refine g_if_eq (pc := 6) (tgt := 18) C dX8_findings_6 (by decide) (fun hc2 => ?_) (fun hc2 => ?_)
  · refine g_iconst (pc := 18) (v := -1) C dX8_findings_18 kc_m1 ?_
    exact g_iret C dX8_findings_19
  · refine g_aload_n (pc := 9) C 0 rfl dX8_findings_9 rfl ?_
    refine g_get (pc := 10) C so_RX8 1 fl_RX8_7 (v := .ref (w.2.1 (148))) rfl dX8_findings_10 ?_
    refine g_iload_n (pc := 13) C 1 rfl dX8_findings_13 rfl ?_
    refine g_iald (pc := 14) C si_148 dX8_findings_14 (fun hb3 => ?_)
    refine g_goto (pc := 15) (tgt := 19) C dX8_findings_15 (by decide) ?_
    exact g_iret C dX8_findings_19
/-- SnowHouseModel.tellsBy(II)I -/
def f_X8_tellsBy (h : TT) (x1 : Int32) (x2 : Int32) : Option (Int32 × TT) := nm (wr h 147 2 x1) fun h1 => some (x2, h1)
set_option maxRecDepth 20000 in
theorem m_X8_tellsBy {l : Launch} {w : WK} {h : TT} {x1 : Int32} {x2 : Int32} {x : (Int32 × TT)} (hx : f_X8_tellsBy h x1 x2 = some x)  : Met l yX8_tellsBy (Cond.code yX8_tellsBy cX8_tellsBy 3 (some .int) :: wsG) { frames := 0, cells := 0, slots := 0, locals := 0 } (PG w [.ref (w.2.1 (147)), .int x1, .int x2] h) (QG w (fIT x)) 0 0 (AA w) := by
  refine m_entry (own := RX8) (f := fIT) hx (by decide) rfl (Nat.le_of_ble_eq_true rfl) (fun p e s m args below meth c C => ?_)
  show GO p l e _ s m args below meth c w 3 fIT (f_X8_tellsBy h x1 x2) 0 [(0, .ref (w.2.1 (147))), (1, .int x1), (2, .int x2)] [] h
  unfold f_X8_tellsBy
  refine g_aload_n (pc := 0) C 0 rfl dX8_tellsBy_0 rfl ?_
  refine g_iload_n (pc := 1) C 1 rfl dX8_tellsBy_1 rfl ?_
  refine g_putI (pc := 2) C so_RX8 2 fp_RX8_75 (se_RX8_2 _) rfl rfl (sl_RX8_2) dX8_tellsBy_2 ?_
  refine g_nm (fun h1 => ?_)
  refine g_iload_n (pc := 5) C 2 rfl dX8_tellsBy_5 rfl ?_
  exact g_iretT C dX8_tellsBy_6
/-- SnowHouseModel.asked()I -/
def f_X8_asked (h : TT)  : Option Int32 := some (h.1 147 2)
set_option maxRecDepth 20000 in
theorem m_X8_asked {l : Launch} {w : WK} {h : TT}  {x : Int32} (hx : f_X8_asked h  = some x)  : Met l yX8_asked (Cond.code yX8_asked cX8_asked 1 (some .int) :: wsG) { frames := 0, cells := 0, slots := 0, locals := 0 } (PG w [.ref (w.2.1 (147))] h) (QG w ((fI h) x)) 0 0 (AA w) := by
  refine m_entry (own := RX8) (f := (fI h)) hx (by decide) rfl (Nat.le_of_ble_eq_true rfl) (fun p e s m args below meth c C => ?_)
  show GO p l e _ s m args below meth c w 1 (fI h) (f_X8_asked h ) 0 [(0, .ref (w.2.1 (147)))] [] h
  unfold f_X8_asked
  refine g_aload_n (pc := 0) C 0 rfl dX8_asked_0 rfl ?_
  refine g_get (pc := 1) C so_RX8 2 fl_RX8_75 (v := .int (h.1 147 2)) rfl dX8_asked_1 ?_
  exact g_iret C dX8_asked_4
/-- SnowHouseModel.fraction(JJI)I -/
def f_X8_fraction_6   : Nat → Int64 → Int64 → Int32 → Int64 → Int64 → TT → Option (Int32 × TT)
  | 0, _, _, _, _, _, _ => none
  | n + 1, x1, x3, x5, x6, x8, h => (if (lg_cmp x8 (0 : Int64)) = 0 then if x6 = 0 then none else nm (wrl h 147 3 (x1 / x6)) fun h3 => if x6 = 0 then none else nm (wrl h3 147 4 (x3 / x6)) fun h5 => some (x5, h5) else if x8 = 0 then none else nm (x6 - x6 / x8 * x8) fun y7 => f_X8_fraction_6 n x1 x3 x5 x8 y7 h)
set_option maxRecDepth 20000 in
theorem j_X8_fraction_6 {p : Program} {l : Launch} {e : Env} {R : Room} {s : State} {m : MethodId} {args : Array Value} {below : List Frame} {meth : Method} {c : Code} {w : WK} (C : CX p R s m args meth c w RX8 cX8_fraction 12 (some .int) 0 0)     : ∀ (n : Nat) (x1 : Int64) (x3 : Int64) (x5 : Int32) (x6 : Int64) (x8 : Int64) (h : TT), GO p l e R s m args below meth c w 12 fIT (f_X8_fraction_6 n x1 x3 x5 x6 x8 h) 6 [(0, .ref (w.2.1 (147))), (1, .long x1), (3, .long x3), (5, .int x5), (6, .long x6), (8, .long x8)] [] h := by
  intro n
  induction n with
  | zero =>
    intro x1 x3 x5 x6 x8 h
    exact g_none
  | succ n ih =>
    intro x1 x3 x5 x6 x8 h
    rw [f_X8_fraction_6]
    refine g_lload (pc := 6) C 5 rfl dX8_fraction_6 ?_
    refine g_lconst (pc := 8) (v := 0) C dX8_fraction_8 (by decide) ?_
    refine g_lcmp (pc := 9) C dX8_fraction_9 ?_
    refine g_if_eq (pc := 10) (tgt := 31) C dX8_fraction_10 (by decide) (fun hc1 => ?_) (fun hc1 => ?_)
    · refine g_aload_n (pc := 31) C 0 rfl dX8_fraction_31 rfl ?_
      refine g_lload_n (pc := 32) C 1 rfl dX8_fraction_32 rfl ?_
      refine g_lload (pc := 33) C 4 rfl dX8_fraction_33 ?_
      refine g_guardp (fun hz2 => ?_)
      refine g_ldiv (pc := 35) C dX8_fraction_35 hz2 ?_
      refine g_putJ (pc := 36) C so_RX8 3 fp_RX8_78 (se_RX8_3 _) rfl rfl (sl_RX8_3) dX8_fraction_36 ?_
      refine g_nm (fun h3 => ?_)
      refine g_aload_n (pc := 39) C 0 rfl dX8_fraction_39 rfl ?_
      refine g_lload_n (pc := 40) C 2 rfl dX8_fraction_40 rfl ?_
      refine g_lload (pc := 41) C 4 rfl dX8_fraction_41 ?_
      refine g_guardp (fun hz4 => ?_)
      refine g_ldiv (pc := 43) C dX8_fraction_43 hz4 ?_
      refine g_putJ (pc := 44) C so_RX8 4 fp_RX8_63 (se_RX8_4 _) rfl rfl (sl_RX8_4) dX8_fraction_44 ?_
      refine g_nm (fun h5 => ?_)
      refine g_iload (pc := 47) C 3 rfl dX8_fraction_47 ?_
      exact g_iretT C dX8_fraction_49
    · refine g_lload (pc := 13) C 4 rfl dX8_fraction_13 ?_
      refine g_lload (pc := 15) C 5 rfl dX8_fraction_15 ?_
      refine g_guardp (fun hz6 => ?_)
      refine g_lrem (pc := 17) C dX8_fraction_17 hz6 ?_
      refine g_nmj (fun y7 => ?_)
      refine g_lstore (pc := 18) C dX8_fraction_18 (by decide) (lv' := [(10, .long y7), (0, .ref (w.2.1 (147))), (1, .long x1), (3, .long x3), (5, .int x5), (6, .long x6), (8, .long x8)]) rfl ?_
      refine g_lload (pc := 20) C 6 rfl dX8_fraction_20 ?_
      refine g_lstore (pc := 22) C dX8_fraction_22 (by decide) (lv' := [(6, .long x8), (10, .long y7), (0, .ref (w.2.1 (147))), (1, .long x1), (3, .long x3), (5, .int x5), (8, .long x8)]) rfl ?_
      refine g_lload (pc := 24) C 1 rfl dX8_fraction_24 ?_
      refine g_lstore (pc := 26) C dX8_fraction_26 (by decide) (lv' := [(8, .long y7), (6, .long x8), (10, .long y7), (0, .ref (w.2.1 (147))), (1, .long x1), (3, .long x3), (5, .int x5)]) rfl ?_
      refine g_goto (pc := 28) (tgt := 6) C dX8_fraction_28 (by decide) ?_
      refine g_lv (lv' := [(0, .ref (w.2.1 (147))), (1, .long x1), (3, .long x3), (5, .int x5), (6, .long x8), (8, .long y7)]) [3, 4, 5, 6, 1, 0] rfl ?_
      exact ih x1 x3 x5 x8 y7 h
def f_X8_fraction (h : TT) (x1 : Int64) (x3 : Int64) (x5 : Int32) : Option (Int32 × TT) := f_X8_fraction_6 KF x1 x3 x5 x1 x3 h
set_option maxRecDepth 20000 in
theorem m_X8_fraction {l : Launch} {w : WK} {h : TT} {x1 : Int64} {x3 : Int64} {x5 : Int32} {x : (Int32 × TT)} (hx : f_X8_fraction h x1 x3 x5 = some x)  : Met l yX8_fraction (Cond.code yX8_fraction cX8_fraction 12 (some .int) :: wsG) { frames := 0, cells := 0, slots := 0, locals := 0 } (PG w [.ref (w.2.1 (147)), .long x1, .long x3, .int x5] h) (QG w (fIT x)) 0 0 (AA w) := by
  refine m_entry (own := RX8) (f := fIT) hx (by decide) rfl (Nat.le_of_ble_eq_true rfl) (fun p e s m args below meth c C => ?_)
  show GO p l e _ s m args below meth c w 12 fIT (f_X8_fraction h x1 x3 x5) 0 [(0, .ref (w.2.1 (147))), (1, .long x1), (3, .long x3), (5, .int x5)] [] h
  unfold f_X8_fraction
  refine g_lload_n (pc := 0) C 1 rfl dX8_fraction_0 rfl ?_
  refine g_lstore (pc := 1) C dX8_fraction_1 (by decide) (lv' := [(6, .long x1), (0, .ref (w.2.1 (147))), (1, .long x1), (3, .long x3), (5, .int x5)]) rfl ?_
  refine g_lload_n (pc := 3) C 3 rfl dX8_fraction_3 rfl ?_
  refine g_lstore (pc := 4) C dX8_fraction_4 (by decide) (lv' := [(8, .long x3), (6, .long x1), (0, .ref (w.2.1 (147))), (1, .long x1), (3, .long x3), (5, .int x5)]) rfl ?_
  refine g_lv (lv' := [(0, .ref (w.2.1 (147))), (1, .long x1), (3, .long x3), (5, .int x5), (6, .long x1), (8, .long x3)]) [2, 3, 4, 5, 1, 0] rfl ?_
  exact j_X8_fraction_6 C KF x1 x3 x5 x1 x3 h
/-- SnowHouseModel.upper()J -/
def f_X8_upper (h : TT)  : Option Int64 := some (h.2 147 3)
set_option maxRecDepth 20000 in
theorem m_X8_upper {l : Launch} {w : WK} {h : TT}  {x : Int64} (hx : f_X8_upper h  = some x)  : Met l yX8_upper (Cond.code yX8_upper cX8_upper 1 (some .long) :: wsG) { frames := 0, cells := 0, slots := 0, locals := 0 } (PG w [.ref (w.2.1 (147))] h) (QG w ((fJ h) x)) 0 0 (AA w) := by
  refine m_entry (own := RX8) (f := (fJ h)) hx (by decide) rfl (Nat.le_of_ble_eq_true rfl) (fun p e s m args below meth c C => ?_)
  show GO p l e _ s m args below meth c w 1 (fJ h) (f_X8_upper h ) 0 [(0, .ref (w.2.1 (147)))] [] h
  unfold f_X8_upper
  refine g_aload_n (pc := 0) C 0 rfl dX8_upper_0 rfl ?_
  refine g_get (pc := 1) C so_RX8 3 fl_RX8_78 (v := .long (h.2 147 3)) rfl dX8_upper_1 ?_
  exact g_lret C dX8_upper_4
/-- SnowHouseModel.lower()J -/
def f_X8_lower (h : TT)  : Option Int64 := some (h.2 147 4)
set_option maxRecDepth 20000 in
theorem m_X8_lower {l : Launch} {w : WK} {h : TT}  {x : Int64} (hx : f_X8_lower h  = some x)  : Met l yX8_lower (Cond.code yX8_lower cX8_lower 1 (some .long) :: wsG) { frames := 0, cells := 0, slots := 0, locals := 0 } (PG w [.ref (w.2.1 (147))] h) (QG w ((fJ h) x)) 0 0 (AA w) := by
  refine m_entry (own := RX8) (f := (fJ h)) hx (by decide) rfl (Nat.le_of_ble_eq_true rfl) (fun p e s m args below meth c C => ?_)
  show GO p l e _ s m args below meth c w 1 (fJ h) (f_X8_lower h ) 0 [(0, .ref (w.2.1 (147)))] [] h
  unfold f_X8_lower
  refine g_aload_n (pc := 0) C 0 rfl dX8_lower_0 rfl ?_
  refine g_get (pc := 1) C so_RX8 4 fl_RX8_63 (v := .long (h.2 147 4)) rfl dX8_lower_1 ?_
  exact g_lret C dX8_lower_4
/-- SnowHouseModel.isRow(I)Z -/
def f_X8_isRow (h : TT) (x0 : Int32) : Option Int32 := (f_X8_in h x0 (0 : Int32) (5 : Int32)).bind fun r1 => if isZ r1 = true then some r1 else none
set_option maxRecDepth 20000 in
theorem m_X8_isRow {l : Launch} {w : WK} {h : TT} {x0 : Int32} {x : Int32} (hx : f_X8_isRow h x0 = some x)  : Met l yX8_isRow (Cond.code yX8_isRow cX8_isRow 1 (some .boolean) :: wsG) { frames := 1, cells := 0, slots := 0, locals := 22 } (PG w [.int x0] h) (QG w ((fI h) x)) 0 0 (AA w) := by
  refine m_entry (own := RX8) (f := (fI h)) hx (by decide) rfl (Nat.le_of_ble_eq_true rfl) (fun p e s m args below meth c C => ?_)
  show GO p l e _ s m args below meth c w 1 (fI h) (f_X8_isRow h x0) 0 [(0, .int x0)] [] h
  unfold f_X8_isRow
  refine g_iload_n (pc := 0) C 0 rfl dX8_isRow_0 rfl ?_
  refine g_iconst (pc := 1) (v := 0) C dX8_isRow_1 kc_0 ?_
  refine g_iconst (pc := 2) (v := 5) C dX8_isRow_2 kc_5 ?_
  refine g_callI (pc := 3) (rest := []) (g_runS C ms_RX8_71 (fun x1 hx1 => m_X8_in hx1) (by decide) rfl rfl (Nat.le_of_ble_eq_true rfl) dX8_isRow_3) (fun r1 => ?_)
  refine g_guard (fun hz2 => ?_)
  exact g_zret C dX8_isRow_6 hz2
/-- SnowHouseModel.rowAt(II)I -/
def f_X8_rowAt (h : TT) (x1 : Int32) (x2 : Int32) : Option Int32 := if inb (((60 : Int32) * x1) + x2) 360 = true then some (h.1 150 (((60 : Int32) * x1) + x2).toNatClampNeg) else none
set_option maxRecDepth 20000 in
theorem m_X8_rowAt {l : Launch} {w : WK} {h : TT} {x1 : Int32} {x2 : Int32} {x : Int32} (hx : f_X8_rowAt h x1 x2 = some x)  : Met l yX8_rowAt (Cond.code yX8_rowAt cX8_rowAt 3 (some .int) :: wsG) { frames := 0, cells := 0, slots := 0, locals := 0 } (PG w [.ref (w.2.1 (147)), .int x1, .int x2] h) (QG w ((fI h) x)) 0 0 (AA w) := by
  refine m_entry (own := RX8) (f := (fI h)) hx (by decide) rfl (Nat.le_of_ble_eq_true rfl) (fun p e s m args below meth c C => ?_)
  show GO p l e _ s m args below meth c w 3 (fI h) (f_X8_rowAt h x1 x2) 0 [(0, .ref (w.2.1 (147))), (1, .int x1), (2, .int x2)] [] h
  unfold f_X8_rowAt
  refine g_aload_n (pc := 0) C 0 rfl dX8_rowAt_0 rfl ?_
  refine g_get (pc := 1) C so_RX8 6 fl_RX8_16 (v := .ref (w.2.1 (150))) rfl dX8_rowAt_1 ?_
  refine g_bipush (pc := 4) (v := 60) C dX8_rowAt_4 kb_60 ?_
  refine g_iload_n (pc := 6) C 1 rfl dX8_rowAt_6 rfl ?_
  refine g_imul (pc := 7) C dX8_rowAt_7 ?_
  refine g_iload_n (pc := 8) C 2 rfl dX8_rowAt_8 rfl ?_
  refine g_iadd (pc := 9) C dX8_rowAt_9 ?_
  refine g_iald (pc := 10) C si_150 dX8_rowAt_10 (fun hb1 => ?_)
  exact g_iret C dX8_rowAt_11
/-- SnowHouseModel.row(II)I -/
def f_X8_row_34   : Nat → Int32 → Int32 → Int32 → TT → Option (Int32 × TT)
  | 0, _, _, _, _ => none
  | n + 1, x1, x2, x3, h => (if (60 : Int32) ≤ x3 then some (x2, h) else if inb (((60 : Int32) * x1) + x3) 360 = true then nm (wr h 150 (((60 : Int32) * x1) + x3).toNatClampNeg (0 : Int32)) fun h9 => f_X8_row_34 n x1 x2 (x3 + (1 : Int32)) h9 else none)
set_option maxRecDepth 20000 in
theorem j_X8_row_34 {p : Program} {l : Launch} {e : Env} {R : Room} {s : State} {m : MethodId} {args : Array Value} {below : List Frame} {meth : Method} {c : Code} {w : WK} (C : CX p R s m args meth c w RX8 cX8_row 4 (some .int) 2 42)     : ∀ (n : Nat) (x1 : Int32) (x2 : Int32) (x3 : Int32) (h : TT), GO p l e R s m args below meth c w 4 fIT (f_X8_row_34 n x1 x2 x3 h) 34 [(0, .ref (w.2.1 (147))), (1, .int x1), (2, .int x2), (3, .int x3)] [] h := by
  intro n
  induction n with
  | zero =>
    intro x1 x2 x3 h
    exact g_none
  | succ n ih =>
    intro x1 x2 x3 h
    rw [f_X8_row_34]
    refine g_iload_n (pc := 34) C 3 rfl dX8_row_34 rfl ?_
    refine g_bipush (pc := 35) (v := 60) C dX8_row_35 kb_60 ?_
    refine g_icmp_ge (pc := 37) (tgt := 58) C dX8_row_37 (by decide) (fun hc7 => ?_) (fun hc7 => ?_)
    · refine g_iload_n (pc := 58) C 2 rfl dX8_row_58 rfl ?_
      exact g_iretT C dX8_row_59
    · refine g_aload_n (pc := 40) C 0 rfl dX8_row_40 rfl ?_
      refine g_get (pc := 41) C so_RX8 6 fl_RX8_16 (v := .ref (w.2.1 (150))) rfl dX8_row_41 ?_
      refine g_bipush (pc := 44) (v := 60) C dX8_row_44 kb_60 ?_
      refine g_iload_n (pc := 46) C 1 rfl dX8_row_46 rfl ?_
      refine g_imul (pc := 47) C dX8_row_47 ?_
      refine g_iload_n (pc := 48) C 3 rfl dX8_row_48 rfl ?_
      refine g_iadd (pc := 49) C dX8_row_49 ?_
      refine g_iconst (pc := 50) (v := 0) C dX8_row_50 kc_0 ?_
      refine g_iast (pc := 51) C si_150 dX8_row_51 (fun hb8 => ?_)
      refine g_nm (fun h9 => ?_)
      refine g_iinc (pc := 52) C 3 rfl dX8_row_52 (ki_1 _) (by decide) (lv' := [(3, .int (x3 + (1 : Int32))), (0, .ref (w.2.1 (147))), (1, .int x1), (2, .int x2)]) rfl ?_
      refine g_goto (pc := 55) (tgt := 34) C dX8_row_55 (by decide) ?_
      refine g_lv (lv' := [(0, .ref (w.2.1 (147))), (1, .int x1), (2, .int x2), (3, .int (x3 + (1 : Int32)))]) [1, 2, 3, 0] rfl ?_
      exact ih x1 x2 (x3 + (1 : Int32)) h9
def f_X8_row (h : TT) (x1 : Int32) (x2 : Int32) : Option (Int32 × TT) := (f_X8_isRow h x1).bind fun r1 => (if r1 = 0 then some ((-1 : Int32), h) else (if x2 ≤ (60 : Int32) then (if 0 ≤ x2 then if inb x1 6 = true then nm (wr h 149 x1.toNatClampNeg x2) fun h6 => f_X8_row_34 KF x1 x2 (0 : Int32) h6 else none else (f_X8_meets h (5 : Int32)).bind fun q10 => some (q10.1, q10.2)) else some ((-1 : Int32), h)))
set_option maxRecDepth 20000 in
theorem m_X8_row {l : Launch} {w : WK} {h : TT} {x1 : Int32} {x2 : Int32} {x : (Int32 × TT)} (hx : f_X8_row h x1 x2 = some x)  : Met l yX8_row (Cond.code yX8_row cX8_row 4 (some .int) :: wsG) { frames := 2, cells := 0, slots := 0, locals := 42 } (PG w [.ref (w.2.1 (147)), .int x1, .int x2] h) (QG w (fIT x)) 0 0 (AA w) := by
  refine m_entry (own := RX8) (f := fIT) hx (by decide) rfl (Nat.le_of_ble_eq_true rfl) (fun p e s m args below meth c C => ?_)
  show GO p l e _ s m args below meth c w 4 fIT (f_X8_row h x1 x2) 0 [(0, .ref (w.2.1 (147))), (1, .int x1), (2, .int x2)] [] h
  unfold f_X8_row
  refine g_iload_n (pc := 0) C 1 rfl dX8_row_0 rfl ?_
  refine g_callI (pc := 1) (rest := []) (g_runS C ms_RX8_81 (fun x1 hx1 => m_X8_isRow hx1) (by decide) rfl rfl (Nat.le_of_ble_eq_true rfl) dX8_row_1) (fun r1 => ?_)
  refine g_if_eq (pc := 4) (tgt := 13) C dX8_row_4 (by decide) (fun hc2 => ?_) (fun hc2 => ?_)
  · refine g_iconst (pc := 13) (v := -1) C dX8_row_13 kc_m1 ?_
    exact g_iretT C dX8_row_14
  · refine g_iload_n (pc := 7) C 2 rfl dX8_row_7 rfl ?_
    refine g_bipush (pc := 8) (v := 60) C dX8_row_8 kb_60 ?_
    refine g_icmp_le (pc := 10) (tgt := 15) C dX8_row_10 (by decide) (fun hc3 => ?_) (fun hc3 => ?_)
    · refine g_iload_n (pc := 15) C 2 rfl dX8_row_15 rfl ?_
      refine g_if_ge (pc := 16) (tgt := 25) C dX8_row_16 (by decide) (fun hc4 => ?_) (fun hc4 => ?_)
      · refine g_aload_n (pc := 25) C 0 rfl dX8_row_25 rfl ?_
        refine g_get (pc := 26) C so_RX8 5 fl_RX8_13 (v := .ref (w.2.1 (149))) rfl dX8_row_26 ?_
        refine g_iload_n (pc := 29) C 1 rfl dX8_row_29 rfl ?_
        refine g_iload_n (pc := 30) C 2 rfl dX8_row_30 rfl ?_
        refine g_iast (pc := 31) C si_149 dX8_row_31 (fun hb5 => ?_)
        refine g_nm (fun h6 => ?_)
        refine g_iconst (pc := 32) (v := 0) C dX8_row_32 kc_0 ?_
        refine g_istore_n (pc := 33) C dX8_row_33 rfl (by decide) (lv' := [(3, .int (0 : Int32)), (0, .ref (w.2.1 (147))), (1, .int x1), (2, .int x2)]) rfl ?_
        refine g_lv (lv' := [(0, .ref (w.2.1 (147))), (1, .int x1), (2, .int x2), (3, .int (0 : Int32))]) [1, 2, 3, 0] rfl ?_
        exact j_X8_row_34 C KF x1 x2 (0 : Int32) h6
      · refine g_aload_n (pc := 19) C 0 rfl dX8_row_19 rfl ?_
        refine g_iconst (pc := 20) (v := 5) C dX8_row_20 kc_5 ?_
        refine g_callIT (pc := 21) (rest := []) (g_runV C mv_RX8_85 (fun x1 hx1 => m_X8_meets hx1) so_RX8 rfl (by decide) rfl rfl (Nat.le_of_ble_eq_true rfl) dX8_row_21) (fun q10 => ?_)
        exact g_iretT C dX8_row_24
    · refine g_iconst (pc := 13) (v := -1) C dX8_row_13 kc_m1 ?_
      exact g_iretT C dX8_row_14
/-- SnowHouseModel.lay(III)I -/
def f_X8_lay (h : TT) (x1 : Int32) (x2 : Int32) (x3 : Int32) : Option (Int32 × TT) := (f_X8_isRow h x1).bind fun r1 => (if r1 = 0 then some ((-1 : Int32), h) else if inb x1 6 = true then (if 0 ≤ (h.1 149 x1.toNatClampNeg) then if inb x1 6 = true then (f_X8_in h x2 (0 : Int32) ((h.1 149 x1.toNatClampNeg) - (1 : Int32))).bind fun r6 => (if r6 = 0 then (f_X8_meets h (2 : Int32)).bind fun q8 => some (q8.1, q8.2) else (f_X8_rowAt h x1 x2).bind fun r9 => if inb (((60 : Int32) * x1) + x2) 360 = true then nm (wr h 150 (((60 : Int32) * x1) + x2).toNatClampNeg x3) fun h11 => (f_X8_tellsBy h11 r9 (1 : Int32)).bind fun q12 => some (q12.1, q12.2) else none) else none else (f_X8_meets h (1 : Int32)).bind fun q13 => some (q13.1, q13.2)) else none)
set_option maxRecDepth 20000 in
theorem m_X8_lay {l : Launch} {w : WK} {h : TT} {x1 : Int32} {x2 : Int32} {x3 : Int32} {x : (Int32 × TT)} (hx : f_X8_lay h x1 x2 x3 = some x)  : Met l yX8_lay (Cond.code yX8_lay cX8_lay 5 (some .int) :: wsG) { frames := 2, cells := 0, slots := 0, locals := 42 } (PG w [.ref (w.2.1 (147)), .int x1, .int x2, .int x3] h) (QG w (fIT x)) 0 0 (AA w) := by
  refine m_entry (own := RX8) (f := fIT) hx (by decide) rfl (Nat.le_of_ble_eq_true rfl) (fun p e s m args below meth c C => ?_)
  show GO p l e _ s m args below meth c w 5 fIT (f_X8_lay h x1 x2 x3) 0 [(0, .ref (w.2.1 (147))), (1, .int x1), (2, .int x2), (3, .int x3)] [] h
  unfold f_X8_lay
  refine g_iload_n (pc := 0) C 1 rfl dX8_lay_0 rfl ?_
  refine g_callI (pc := 1) (rest := []) (g_runS C ms_RX8_81 (fun x1 hx1 => m_X8_isRow hx1) (by decide) rfl rfl (Nat.le_of_ble_eq_true rfl) dX8_lay_1) (fun r1 => ?_)
  refine g_if_ne (pc := 4) (tgt := 9) C dX8_lay_4 (by decide) (fun hc2 => ?_) (fun hc2 => ?_)
  · refine g_iconst (pc := 7) (v := -1) C dX8_lay_7 kc_m1 ?_
    exact g_iretT C dX8_lay_8
  · refine g_aload_n (pc := 9) C 0 rfl dX8_lay_9 rfl ?_
    refine g_get (pc := 10) C so_RX8 5 fl_RX8_13 (v := .ref (w.2.1 (149))) rfl dX8_lay_10 ?_
    refine g_iload_n (pc := 13) C 1 rfl dX8_lay_13 rfl ?_
    refine g_iald (pc := 14) C si_149 dX8_lay_14 (fun hb3 => ?_)
    refine g_if_ge (pc := 15) (tgt := 24) C dX8_lay_15 (by decide) (fun hc4 => ?_) (fun hc4 => ?_)
    · refine g_iload_n (pc := 24) C 2 rfl dX8_lay_24 rfl ?_
      refine g_iconst (pc := 25) (v := 0) C dX8_lay_25 kc_0 ?_
      refine g_aload_n (pc := 26) C 0 rfl dX8_lay_26 rfl ?_
      refine g_get (pc := 27) C so_RX8 5 fl_RX8_13 (v := .ref (w.2.1 (149))) rfl dX8_lay_27 ?_
      refine g_iload_n (pc := 30) C 1 rfl dX8_lay_30 rfl ?_
      refine g_iald (pc := 31) C si_149 dX8_lay_31 (fun hb5 => ?_)
      refine g_iconst (pc := 32) (v := 1) C dX8_lay_32 kc_1 ?_
      refine g_isub (pc := 33) C dX8_lay_33 ?_
      refine g_callI (pc := 34) (rest := []) (g_runS C ms_RX8_71 (fun x1 hx1 => m_X8_in hx1) (by decide) rfl rfl (Nat.le_of_ble_eq_true rfl) dX8_lay_34) (fun r6 => ?_)
      refine g_if_ne (pc := 37) (tgt := 46) C dX8_lay_37 (by decide) (fun hc7 => ?_) (fun hc7 => ?_)
      · refine g_aload_n (pc := 40) C 0 rfl dX8_lay_40 rfl ?_
        refine g_iconst (pc := 41) (v := 2) C dX8_lay_41 kc_2 ?_
        refine g_callIT (pc := 42) (rest := []) (g_runV C mv_RX8_85 (fun x1 hx1 => m_X8_meets hx1) so_RX8 rfl (by decide) rfl rfl (Nat.le_of_ble_eq_true rfl) dX8_lay_42) (fun q8 => ?_)
        exact g_iretT C dX8_lay_45
      · refine g_aload_n (pc := 46) C 0 rfl dX8_lay_46 rfl ?_
        refine g_iload_n (pc := 47) C 1 rfl dX8_lay_47 rfl ?_
        refine g_iload_n (pc := 48) C 2 rfl dX8_lay_48 rfl ?_
        refine g_callI (pc := 49) (rest := []) (g_runV C mv_RX8_89 (fun x1 hx1 => m_X8_rowAt hx1) so_RX8 rfl (by decide) rfl rfl (Nat.le_of_ble_eq_true rfl) dX8_lay_49) (fun r9 => ?_)
        refine g_istore (pc := 52) C dX8_lay_52 (by decide) (lv' := [(4, .int r9), (0, .ref (w.2.1 (147))), (1, .int x1), (2, .int x2), (3, .int x3)]) rfl ?_
        refine g_aload_n (pc := 54) C 1 rfl dX8_lay_54 rfl ?_
        refine g_get (pc := 55) C so_RX8 6 fl_RX8_16 (v := .ref (w.2.1 (150))) rfl dX8_lay_55 ?_
        refine g_bipush (pc := 58) (v := 60) C dX8_lay_58 kb_60 ?_
        refine g_iload_n (pc := 60) C 2 rfl dX8_lay_60 rfl ?_
        refine g_imul (pc := 61) C dX8_lay_61 ?_
        refine g_iload_n (pc := 62) C 3 rfl dX8_lay_62 rfl ?_
        refine g_iadd (pc := 63) C dX8_lay_63 ?_
        refine g_iload_n (pc := 64) C 4 rfl dX8_lay_64 rfl ?_
        refine g_iast (pc := 65) C si_150 dX8_lay_65 (fun hb10 => ?_)
        refine g_nm (fun h11 => ?_)
        refine g_aload_n (pc := 66) C 1 rfl dX8_lay_66 rfl ?_
        refine g_iload (pc := 67) C 0 rfl dX8_lay_67 ?_
        refine g_iconst (pc := 69) (v := 1) C dX8_lay_69 kc_1 ?_
        refine g_callIT (pc := 70) (rest := []) (g_runV C mv_RX8_93 (fun x1 hx1 => m_X8_tellsBy hx1) so_RX8 rfl (by decide) rfl rfl (Nat.le_of_ble_eq_true rfl) dX8_lay_70) (fun q12 => ?_)
        exact g_iretT C dX8_lay_73
    · refine g_aload_n (pc := 18) C 0 rfl dX8_lay_18 rfl ?_
      refine g_iconst (pc := 19) (v := 1) C dX8_lay_19 kc_1 ?_
      refine g_callIT (pc := 20) (rest := []) (g_runV C mv_RX8_85 (fun x1 hx1 => m_X8_meets hx1) so_RX8 rfl (by decide) rfl rfl (Nat.le_of_ble_eq_true rfl) dX8_lay_20) (fun q13 => ?_)
      exact g_iretT C dX8_lay_23
/-- SnowHouseModel.at(II)I -/
def f_X8_at (h : TT) (x1 : Int32) (x2 : Int32) : Option (Int32 × TT) := (f_X8_isRow h x1).bind fun r1 => (if r1 = 0 then some ((-1 : Int32), h) else if inb x1 6 = true then (if 0 ≤ (h.1 149 x1.toNatClampNeg) then if inb x1 6 = true then (f_X8_in h x2 (0 : Int32) ((h.1 149 x1.toNatClampNeg) - (1 : Int32))).bind fun r6 => (if r6 = 0 then (f_X8_meets h (2 : Int32)).bind fun q8 => some (q8.1, q8.2) else (f_X8_rowAt h x1 x2).bind fun r9 => (f_X8_tellsBy h r9 (1 : Int32)).bind fun q10 => some (q10.1, q10.2)) else none else (f_X8_meets h (1 : Int32)).bind fun q11 => some (q11.1, q11.2)) else none)
set_option maxRecDepth 20000 in
theorem m_X8_at {l : Launch} {w : WK} {h : TT} {x1 : Int32} {x2 : Int32} {x : (Int32 × TT)} (hx : f_X8_at h x1 x2 = some x)  : Met l yX8_at (Cond.code yX8_at cX8_at 3 (some .int) :: wsG) { frames := 2, cells := 0, slots := 0, locals := 42 } (PG w [.ref (w.2.1 (147)), .int x1, .int x2] h) (QG w (fIT x)) 0 0 (AA w) := by
  refine m_entry (own := RX8) (f := fIT) hx (by decide) rfl (Nat.le_of_ble_eq_true rfl) (fun p e s m args below meth c C => ?_)
  show GO p l e _ s m args below meth c w 3 fIT (f_X8_at h x1 x2) 0 [(0, .ref (w.2.1 (147))), (1, .int x1), (2, .int x2)] [] h
  unfold f_X8_at
  refine g_iload_n (pc := 0) C 1 rfl dX8_at_0 rfl ?_
  refine g_callI (pc := 1) (rest := []) (g_runS C ms_RX8_81 (fun x1 hx1 => m_X8_isRow hx1) (by decide) rfl rfl (Nat.le_of_ble_eq_true rfl) dX8_at_1) (fun r1 => ?_)
  refine g_if_ne (pc := 4) (tgt := 9) C dX8_at_4 (by decide) (fun hc2 => ?_) (fun hc2 => ?_)
  · refine g_iconst (pc := 7) (v := -1) C dX8_at_7 kc_m1 ?_
    exact g_iretT C dX8_at_8
  · refine g_aload_n (pc := 9) C 0 rfl dX8_at_9 rfl ?_
    refine g_get (pc := 10) C so_RX8 5 fl_RX8_13 (v := .ref (w.2.1 (149))) rfl dX8_at_10 ?_
    refine g_iload_n (pc := 13) C 1 rfl dX8_at_13 rfl ?_
    refine g_iald (pc := 14) C si_149 dX8_at_14 (fun hb3 => ?_)
    refine g_if_ge (pc := 15) (tgt := 24) C dX8_at_15 (by decide) (fun hc4 => ?_) (fun hc4 => ?_)
    · refine g_iload_n (pc := 24) C 2 rfl dX8_at_24 rfl ?_
      refine g_iconst (pc := 25) (v := 0) C dX8_at_25 kc_0 ?_
      refine g_aload_n (pc := 26) C 0 rfl dX8_at_26 rfl ?_
      refine g_get (pc := 27) C so_RX8 5 fl_RX8_13 (v := .ref (w.2.1 (149))) rfl dX8_at_27 ?_
      refine g_iload_n (pc := 30) C 1 rfl dX8_at_30 rfl ?_
      refine g_iald (pc := 31) C si_149 dX8_at_31 (fun hb5 => ?_)
      refine g_iconst (pc := 32) (v := 1) C dX8_at_32 kc_1 ?_
      refine g_isub (pc := 33) C dX8_at_33 ?_
      refine g_callI (pc := 34) (rest := []) (g_runS C ms_RX8_71 (fun x1 hx1 => m_X8_in hx1) (by decide) rfl rfl (Nat.le_of_ble_eq_true rfl) dX8_at_34) (fun r6 => ?_)
      refine g_if_eq (pc := 37) (tgt := 54) C dX8_at_37 (by decide) (fun hc7 => ?_) (fun hc7 => ?_)
      · refine g_aload_n (pc := 54) C 0 rfl dX8_at_54 rfl ?_
        refine g_iconst (pc := 55) (v := 2) C dX8_at_55 kc_2 ?_
        refine g_callIT (pc := 56) (rest := []) (g_runV C mv_RX8_85 (fun x1 hx1 => m_X8_meets hx1) so_RX8 rfl (by decide) rfl rfl (Nat.le_of_ble_eq_true rfl) dX8_at_56) (fun q8 => ?_)
        exact g_iretT C dX8_at_59
      · refine g_aload_n (pc := 40) C 0 rfl dX8_at_40 rfl ?_
        refine g_aload_n (pc := 41) C 0 rfl dX8_at_41 rfl ?_
        refine g_iload_n (pc := 42) C 1 rfl dX8_at_42 rfl ?_
        refine g_iload_n (pc := 43) C 2 rfl dX8_at_43 rfl ?_
        refine g_callI (pc := 44) (rest := [.ref (w.2.1 (147))]) (g_runV C mv_RX8_89 (fun x1 hx1 => m_X8_rowAt hx1) so_RX8 rfl (by decide) rfl rfl (Nat.le_of_ble_eq_true rfl) dX8_at_44) (fun r9 => ?_)
        refine g_iconst (pc := 47) (v := 1) C dX8_at_47 kc_1 ?_
        refine g_callIT (pc := 48) (rest := []) (g_runV C mv_RX8_93 (fun x1 hx1 => m_X8_tellsBy hx1) so_RX8 rfl (by decide) rfl rfl (Nat.le_of_ble_eq_true rfl) dX8_at_48) (fun q10 => ?_)
        refine g_goto (pc := 51) (tgt := 59) C dX8_at_51 (by decide) ?_
        exact g_iretT C dX8_at_59
    · refine g_aload_n (pc := 18) C 0 rfl dX8_at_18 rfl ?_
      refine g_iconst (pc := 19) (v := 1) C dX8_at_19 kc_1 ?_
      refine g_callIT (pc := 20) (rest := []) (g_runV C mv_RX8_85 (fun x1 hx1 => m_X8_meets hx1) so_RX8 rfl (by decide) rfl rfl (Nat.le_of_ble_eq_true rfl) dX8_at_20) (fun q11 => ?_)
      exact g_iretT C dX8_at_23
/-- SnowHouseModel.tear(I)I -/
def f_X8_tear (h : TT) (x1 : Int32) : Option (Int32 × TT) := (f_X8_isRow h x1).bind fun r1 => (if r1 = 0 then some ((-1 : Int32), h) else if inb x1 6 = true then (if 0 ≤ (h.1 149 x1.toNatClampNeg) then if inb x1 6 = true then nm (wr h 149 x1.toNatClampNeg (-1 : Int32)) fun h6 => some ((1 : Int32), h6) else none else (f_X8_meets h (1 : Int32)).bind fun q7 => some (q7.1, q7.2)) else none)
set_option maxRecDepth 20000 in
theorem m_X8_tear {l : Launch} {w : WK} {h : TT} {x1 : Int32} {x : (Int32 × TT)} (hx : f_X8_tear h x1 = some x)  : Met l yX8_tear (Cond.code yX8_tear cX8_tear 2 (some .int) :: wsG) { frames := 2, cells := 0, slots := 0, locals := 42 } (PG w [.ref (w.2.1 (147)), .int x1] h) (QG w (fIT x)) 0 0 (AA w) := by
  refine m_entry (own := RX8) (f := fIT) hx (by decide) rfl (Nat.le_of_ble_eq_true rfl) (fun p e s m args below meth c C => ?_)
  show GO p l e _ s m args below meth c w 2 fIT (f_X8_tear h x1) 0 [(0, .ref (w.2.1 (147))), (1, .int x1)] [] h
  unfold f_X8_tear
  refine g_iload_n (pc := 0) C 1 rfl dX8_tear_0 rfl ?_
  refine g_callI (pc := 1) (rest := []) (g_runS C ms_RX8_81 (fun x1 hx1 => m_X8_isRow hx1) (by decide) rfl rfl (Nat.le_of_ble_eq_true rfl) dX8_tear_1) (fun r1 => ?_)
  refine g_if_ne (pc := 4) (tgt := 9) C dX8_tear_4 (by decide) (fun hc2 => ?_) (fun hc2 => ?_)
  · refine g_iconst (pc := 7) (v := -1) C dX8_tear_7 kc_m1 ?_
    exact g_iretT C dX8_tear_8
  · refine g_aload_n (pc := 9) C 0 rfl dX8_tear_9 rfl ?_
    refine g_get (pc := 10) C so_RX8 5 fl_RX8_13 (v := .ref (w.2.1 (149))) rfl dX8_tear_10 ?_
    refine g_iload_n (pc := 13) C 1 rfl dX8_tear_13 rfl ?_
    refine g_iald (pc := 14) C si_149 dX8_tear_14 (fun hb3 => ?_)
    refine g_if_ge (pc := 15) (tgt := 24) C dX8_tear_15 (by decide) (fun hc4 => ?_) (fun hc4 => ?_)
    · refine g_aload_n (pc := 24) C 0 rfl dX8_tear_24 rfl ?_
      refine g_get (pc := 25) C so_RX8 5 fl_RX8_13 (v := .ref (w.2.1 (149))) rfl dX8_tear_25 ?_
      refine g_iload_n (pc := 28) C 1 rfl dX8_tear_28 rfl ?_
      refine g_iconst (pc := 29) (v := -1) C dX8_tear_29 kc_m1 ?_
      refine g_iast (pc := 30) C si_149 dX8_tear_30 (fun hb5 => ?_)
      refine g_nm (fun h6 => ?_)
      refine g_iconst (pc := 31) (v := 1) C dX8_tear_31 kc_1 ?_
      exact g_iretT C dX8_tear_32
    · refine g_aload_n (pc := 18) C 0 rfl dX8_tear_18 rfl ?_
      refine g_iconst (pc := 19) (v := 1) C dX8_tear_19 kc_1 ?_
      refine g_callIT (pc := 20) (rest := []) (g_runV C mv_RX8_85 (fun x1 hx1 => m_X8_meets hx1) so_RX8 rfl (by decide) rfl rfl (Nat.le_of_ble_eq_true rfl) dX8_tear_20) (fun q7 => ?_)
      exact g_iretT C dX8_tear_23
/-- SnowHouseModel.copy(IIIII)I -/
def f_X8_copy_45    (h : TT) : Option (Int32 × TT) := (f_X8_meets h (1 : Int32)).bind fun q8 => some (q8.1, q8.2)
set_option maxRecDepth 20000 in
theorem j_X8_copy_45 {p : Program} {l : Launch} {e : Env} {R : Room} {s : State} {m : MethodId} {args : Array Value} {below : List Frame} {meth : Method} {c : Code} {w : WK} (C : CX p R s m args meth c w RX8 cX8_copy 7 (some .int) 2 42)       (h : TT) : GO p l e R s m args below meth c w 7 fIT (f_X8_copy_45 h) 45 [(0, .ref (w.2.1 (147)))] [] h := by
  unfold f_X8_copy_45
  refine g_aload_n (pc := 45) C 0 rfl dX8_copy_45 rfl ?_
  refine g_iconst (pc := 46) (v := 1) C dX8_copy_46 kc_1 ?_
  refine g_callIT (pc := 47) (rest := []) (g_runV C mv_RX8_85 (fun x1 hx1 => m_X8_meets hx1) so_RX8 rfl (by decide) rfl rfl (Nat.le_of_ble_eq_true rfl) dX8_copy_47) (fun q8 => ?_)
  exact g_iretT C dX8_copy_50
def f_X8_copy_95    (h : TT) : Option (Int32 × TT) := (f_X8_meets h (2 : Int32)).bind fun q12 => some (q12.1, q12.2)
set_option maxRecDepth 20000 in
theorem j_X8_copy_95 {p : Program} {l : Launch} {e : Env} {R : Room} {s : State} {m : MethodId} {args : Array Value} {below : List Frame} {meth : Method} {c : Code} {w : WK} (C : CX p R s m args meth c w RX8 cX8_copy 7 (some .int) 2 42)       (h : TT) : GO p l e R s m args below meth c w 7 fIT (f_X8_copy_95 h) 95 [(0, .ref (w.2.1 (147)))] [] h := by
  unfold f_X8_copy_95
  refine g_aload_n (pc := 95) C 0 rfl dX8_copy_95 rfl ?_
  refine g_iconst (pc := 96) (v := 2) C dX8_copy_96 kc_2 ?_
  refine g_callIT (pc := 97) (rest := []) (g_runV C mv_RX8_85 (fun x1 hx1 => m_X8_meets hx1) so_RX8 rfl (by decide) rfl rfl (Nat.le_of_ble_eq_true rfl) dX8_copy_97) (fun q12 => ?_)
  exact g_iretT C dX8_copy_100
def f_X8_copy_136   : Nat → Int32 → Int32 → Int32 → Int32 → TT → Option (Int32 × TT)
  | 0, _, _, _, _, _ => none
  | n + 1, x3, x4, x5, x6, h => (if x5 ≤ x6 then some ((1 : Int32), h) else if inb x6 60 = true then if inb ((((60 : Int32) * x3) + x4) + x6) 360 = true then nm (wr h 150 ((((60 : Int32) * x3) + x4) + x6).toNatClampNeg (h.1 151 x6.toNatClampNeg)) fun h22 => f_X8_copy_136 n x3 x4 x5 (x6 + (1 : Int32)) h22 else none else none)
set_option maxRecDepth 20000 in
theorem j_X8_copy_136 {p : Program} {l : Launch} {e : Env} {R : Room} {s : State} {m : MethodId} {args : Array Value} {below : List Frame} {meth : Method} {c : Code} {w : WK} (C : CX p R s m args meth c w RX8 cX8_copy 7 (some .int) 2 42)     : ∀ (n : Nat) (x3 : Int32) (x4 : Int32) (x5 : Int32) (x6 : Int32) (h : TT), GO p l e R s m args below meth c w 7 fIT (f_X8_copy_136 n x3 x4 x5 x6 h) 136 [(0, .ref (w.2.1 (147))), (3, .int x3), (4, .int x4), (5, .int x5), (6, .int x6)] [] h := by
  intro n
  induction n with
  | zero =>
    intro x3 x4 x5 x6 h
    exact g_none
  | succ n ih =>
    intro x3 x4 x5 x6 h
    rw [f_X8_copy_136]
    refine g_iload (pc := 136) C 4 rfl dX8_copy_136 ?_
    refine g_iload (pc := 138) C 3 rfl dX8_copy_138 ?_
    refine g_icmp_ge (pc := 140) (tgt := 171) C dX8_copy_140 (by decide) (fun hc19 => ?_) (fun hc19 => ?_)
    · refine g_iconst (pc := 171) (v := 1) C dX8_copy_171 kc_1 ?_
      exact g_iretT C dX8_copy_172
    · refine g_aload_n (pc := 143) C 0 rfl dX8_copy_143 rfl ?_
      refine g_get (pc := 144) C so_RX8 6 fl_RX8_16 (v := .ref (w.2.1 (150))) rfl dX8_copy_144 ?_
      refine g_bipush (pc := 147) (v := 60) C dX8_copy_147 kb_60 ?_
      refine g_iload_n (pc := 149) C 1 rfl dX8_copy_149 rfl ?_
      refine g_imul (pc := 150) C dX8_copy_150 ?_
      refine g_iload (pc := 151) C 2 rfl dX8_copy_151 ?_
      refine g_iadd (pc := 153) C dX8_copy_153 ?_
      refine g_iload (pc := 154) C 4 rfl dX8_copy_154 ?_
      refine g_iadd (pc := 156) C dX8_copy_156 ?_
      refine g_aload_n (pc := 157) C 0 rfl dX8_copy_157 rfl ?_
      refine g_get (pc := 158) C so_RX8 7 fl_RX8_19 (v := .ref (w.2.1 (151))) rfl dX8_copy_158 ?_
      refine g_iload (pc := 161) C 4 rfl dX8_copy_161 ?_
      refine g_iald (pc := 163) C si_151 dX8_copy_163 (fun hb20 => ?_)
      refine g_iast (pc := 164) C si_150 dX8_copy_164 (fun hb21 => ?_)
      refine g_nm (fun h22 => ?_)
      refine g_iinc (pc := 165) C 4 rfl dX8_copy_165 (ki_1 _) (by decide) (lv' := [(6, .int (x6 + (1 : Int32))), (0, .ref (w.2.1 (147))), (3, .int x3), (4, .int x4), (5, .int x5)]) rfl ?_
      refine g_goto (pc := 168) (tgt := 136) C dX8_copy_168 (by decide) ?_
      refine g_lv (lv' := [(0, .ref (w.2.1 (147))), (3, .int x3), (4, .int x4), (5, .int x5), (6, .int (x6 + (1 : Int32)))]) [1, 2, 3, 4, 0] rfl ?_
      exact ih x3 x4 x5 (x6 + (1 : Int32)) h22
def f_X8_copy_104   : Nat → Int32 → Int32 → Int32 → Int32 → Int32 → Int32 → TT → Option (Int32 × TT)
  | 0, _, _, _, _, _, _, _ => none
  | n + 1, x1, x2, x3, x4, x5, x6, h => (if x5 ≤ x6 then f_X8_copy_136 KF x3 x4 x5 (0 : Int32) h else (f_X8_rowAt h x1 (x2 + x6)).bind fun r23 => if inb x6 60 = true then nm (wr h 151 x6.toNatClampNeg r23) fun h25 => f_X8_copy_104 n x1 x2 x3 x4 x5 (x6 + (1 : Int32)) h25 else none)
set_option maxRecDepth 20000 in
theorem j_X8_copy_104 {p : Program} {l : Launch} {e : Env} {R : Room} {s : State} {m : MethodId} {args : Array Value} {below : List Frame} {meth : Method} {c : Code} {w : WK} (C : CX p R s m args meth c w RX8 cX8_copy 7 (some .int) 2 42)     : ∀ (n : Nat) (x1 : Int32) (x2 : Int32) (x3 : Int32) (x4 : Int32) (x5 : Int32) (x6 : Int32) (h : TT), GO p l e R s m args below meth c w 7 fIT (f_X8_copy_104 n x1 x2 x3 x4 x5 x6 h) 104 [(0, .ref (w.2.1 (147))), (1, .int x1), (2, .int x2), (3, .int x3), (4, .int x4), (5, .int x5), (6, .int x6)] [] h := by
  intro n
  induction n with
  | zero =>
    intro x1 x2 x3 x4 x5 x6 h
    exact g_none
  | succ n ih =>
    intro x1 x2 x3 x4 x5 x6 h
    rw [f_X8_copy_104]
    refine g_iload (pc := 104) C 6 rfl dX8_copy_104 ?_
    refine g_iload (pc := 106) C 5 rfl dX8_copy_106 ?_
    refine g_icmp_ge (pc := 108) (tgt := 133) C dX8_copy_108 (by decide) (fun hc18 => ?_) (fun hc18 => ?_)
    · refine g_iconst (pc := 133) (v := 0) C dX8_copy_133 kc_0 ?_
      refine g_istore (pc := 134) C dX8_copy_134 (by decide) (lv' := [(6, .int (0 : Int32)), (0, .ref (w.2.1 (147))), (1, .int x1), (2, .int x2), (3, .int x3), (4, .int x4), (5, .int x5)]) rfl ?_
      refine g_lv (lv' := [(0, .ref (w.2.1 (147))), (3, .int x3), (4, .int x4), (5, .int x5), (6, .int (0 : Int32))]) [1, 4, 5, 6, 0] rfl ?_
      exact j_X8_copy_136 C KF x3 x4 x5 (0 : Int32) h
    · refine g_aload_n (pc := 111) C 0 rfl dX8_copy_111 rfl ?_
      refine g_get (pc := 112) C so_RX8 7 fl_RX8_19 (v := .ref (w.2.1 (151))) rfl dX8_copy_112 ?_
      refine g_iload (pc := 115) C 6 rfl dX8_copy_115 ?_
      refine g_aload_n (pc := 117) C 0 rfl dX8_copy_117 rfl ?_
      refine g_iload_n (pc := 118) C 1 rfl dX8_copy_118 rfl ?_
      refine g_iload_n (pc := 119) C 2 rfl dX8_copy_119 rfl ?_
      refine g_iload (pc := 120) C 6 rfl dX8_copy_120 ?_
      refine g_iadd (pc := 122) C dX8_copy_122 ?_
      refine g_callI (pc := 123) (rest := [.int x6, .ref (w.2.1 (151))]) (g_runV C mv_RX8_89 (fun x1 hx1 => m_X8_rowAt hx1) so_RX8 rfl (by decide) rfl rfl (Nat.le_of_ble_eq_true rfl) dX8_copy_123) (fun r23 => ?_)
      refine g_iast (pc := 126) C si_151 dX8_copy_126 (fun hb24 => ?_)
      refine g_nm (fun h25 => ?_)
      refine g_iinc (pc := 127) C 6 rfl dX8_copy_127 (ki_1 _) (by decide) (lv' := [(6, .int (x6 + (1 : Int32))), (0, .ref (w.2.1 (147))), (1, .int x1), (2, .int x2), (3, .int x3), (4, .int x4), (5, .int x5)]) rfl ?_
      refine g_goto (pc := 130) (tgt := 104) C dX8_copy_130 (by decide) ?_
      refine g_lv (lv' := [(0, .ref (w.2.1 (147))), (1, .int x1), (2, .int x2), (3, .int x3), (4, .int x4), (5, .int x5), (6, .int (x6 + (1 : Int32)))]) [1, 2, 3, 4, 5, 6, 0] rfl ?_
      exact ih x1 x2 x3 x4 x5 (x6 + (1 : Int32)) h25
def f_X8_copy (h : TT) (x1 : Int32) (x2 : Int32) (x3 : Int32) (x4 : Int32) (x5 : Int32) : Option (Int32 × TT) := (f_X8_isRow h x1).bind fun r1 => (if r1 = 0 then some ((-1 : Int32), h) else (f_X8_isRow h x3).bind fun r3 => (if r3 = 0 then some ((-1 : Int32), h) else (if 0 ≤ x5 then if inb x1 6 = true then (if (h.1 149 x1.toNatClampNeg) < 0 then f_X8_copy_45 h else if inb x3 6 = true then (if 0 ≤ (h.1 149 x3.toNatClampNeg) then (if x2 < 0 then f_X8_copy_95 h else (if x4 < 0 then f_X8_copy_95 h else if inb x1 6 = true then (if 0 < (lg_cmp (x2.toInt64 + x5.toInt64) ((h.1 149 x1.toNatClampNeg).toInt64)) then f_X8_copy_95 h else if inb x3 6 = true then (if (lg_cmp (x4.toInt64 + x5.toInt64) ((h.1 149 x3.toNatClampNeg).toInt64)) ≤ 0 then f_X8_copy_104 KF x1 x2 x3 x4 x5 (0 : Int32) h else f_X8_copy_95 h) else none) else none)) else f_X8_copy_45 h) else none) else none else (f_X8_meets h (5 : Int32)).bind fun q26 => some (q26.1, q26.2))))
set_option maxRecDepth 20000 in
theorem m_X8_copy {l : Launch} {w : WK} {h : TT} {x1 : Int32} {x2 : Int32} {x3 : Int32} {x4 : Int32} {x5 : Int32} {x : (Int32 × TT)} (hx : f_X8_copy h x1 x2 x3 x4 x5 = some x)  : Met l yX8_copy (Cond.code yX8_copy cX8_copy 7 (some .int) :: wsG) { frames := 2, cells := 0, slots := 0, locals := 42 } (PG w [.ref (w.2.1 (147)), .int x1, .int x2, .int x3, .int x4, .int x5] h) (QG w (fIT x)) 0 0 (AA w) := by
  refine m_entry (own := RX8) (f := fIT) hx (by decide) rfl (Nat.le_of_ble_eq_true rfl) (fun p e s m args below meth c C => ?_)
  show GO p l e _ s m args below meth c w 7 fIT (f_X8_copy h x1 x2 x3 x4 x5) 0 [(0, .ref (w.2.1 (147))), (1, .int x1), (2, .int x2), (3, .int x3), (4, .int x4), (5, .int x5)] [] h
  unfold f_X8_copy
  refine g_iload_n (pc := 0) C 1 rfl dX8_copy_0 rfl ?_
  refine g_callI (pc := 1) (rest := []) (g_runS C ms_RX8_81 (fun x1 hx1 => m_X8_isRow hx1) (by decide) rfl rfl (Nat.le_of_ble_eq_true rfl) dX8_copy_1) (fun r1 => ?_)
  refine g_if_eq (pc := 4) (tgt := 14) C dX8_copy_4 (by decide) (fun hc2 => ?_) (fun hc2 => ?_)
  · refine g_iconst (pc := 14) (v := -1) C dX8_copy_14 kc_m1 ?_
    exact g_iretT C dX8_copy_15
  · refine g_iload_n (pc := 7) C 3 rfl dX8_copy_7 rfl ?_
    refine g_callI (pc := 8) (rest := []) (g_runS C ms_RX8_81 (fun x1 hx1 => m_X8_isRow hx1) (by decide) rfl rfl (Nat.le_of_ble_eq_true rfl) dX8_copy_8) (fun r3 => ?_)
    refine g_if_ne (pc := 11) (tgt := 16) C dX8_copy_11 (by decide) (fun hc4 => ?_) (fun hc4 => ?_)
    · refine g_iconst (pc := 14) (v := -1) C dX8_copy_14 kc_m1 ?_
      exact g_iretT C dX8_copy_15
    · refine g_iload (pc := 16) C 5 rfl dX8_copy_16 ?_
      refine g_if_ge (pc := 18) (tgt := 27) C dX8_copy_18 (by decide) (fun hc5 => ?_) (fun hc5 => ?_)
      · refine g_aload_n (pc := 27) C 0 rfl dX8_copy_27 rfl ?_
        refine g_get (pc := 28) C so_RX8 5 fl_RX8_13 (v := .ref (w.2.1 (149))) rfl dX8_copy_28 ?_
        refine g_iload_n (pc := 31) C 1 rfl dX8_copy_31 rfl ?_
        refine g_iald (pc := 32) C si_149 dX8_copy_32 (fun hb6 => ?_)
        refine g_if_lt (pc := 33) (tgt := 45) C dX8_copy_33 (by decide) (fun hc7 => ?_) (fun hc7 => ?_)
        · refine g_lv (lv' := [(0, .ref (w.2.1 (147)))]) [0] rfl ?_
          exact j_X8_copy_45 C h
        · refine g_aload_n (pc := 36) C 0 rfl dX8_copy_36 rfl ?_
          refine g_get (pc := 37) C so_RX8 5 fl_RX8_13 (v := .ref (w.2.1 (149))) rfl dX8_copy_37 ?_
          refine g_iload_n (pc := 40) C 3 rfl dX8_copy_40 rfl ?_
          refine g_iald (pc := 41) C si_149 dX8_copy_41 (fun hb9 => ?_)
          refine g_if_ge (pc := 42) (tgt := 51) C dX8_copy_42 (by decide) (fun hc10 => ?_) (fun hc10 => ?_)
          · refine g_iload_n (pc := 51) C 2 rfl dX8_copy_51 rfl ?_
            refine g_if_lt (pc := 52) (tgt := 95) C dX8_copy_52 (by decide) (fun hc11 => ?_) (fun hc11 => ?_)
            · refine g_lv (lv' := [(0, .ref (w.2.1 (147)))]) [0] rfl ?_
              exact j_X8_copy_95 C h
            · refine g_iload (pc := 55) C 4 rfl dX8_copy_55 ?_
              refine g_if_lt (pc := 57) (tgt := 95) C dX8_copy_57 (by decide) (fun hc13 => ?_) (fun hc13 => ?_)
              · refine g_lv (lv' := [(0, .ref (w.2.1 (147)))]) [0] rfl ?_
                exact j_X8_copy_95 C h
              · refine g_iload_n (pc := 60) C 2 rfl dX8_copy_60 rfl ?_
                refine g_i2l (pc := 61) C dX8_copy_61 ?_
                refine g_iload (pc := 62) C 5 rfl dX8_copy_62 ?_
                refine g_i2l (pc := 64) C dX8_copy_64 ?_
                refine g_ladd (pc := 65) C dX8_copy_65 ?_
                refine g_aload_n (pc := 66) C 0 rfl dX8_copy_66 rfl ?_
                refine g_get (pc := 67) C so_RX8 5 fl_RX8_13 (v := .ref (w.2.1 (149))) rfl dX8_copy_67 ?_
                refine g_iload_n (pc := 70) C 1 rfl dX8_copy_70 rfl ?_
                refine g_iald (pc := 71) C si_149 dX8_copy_71 (fun hb14 => ?_)
                refine g_i2l (pc := 72) C dX8_copy_72 ?_
                refine g_lcmp (pc := 73) C dX8_copy_73 ?_
                refine g_if_gt (pc := 74) (tgt := 95) C dX8_copy_74 (by decide) (fun hc15 => ?_) (fun hc15 => ?_)
                · refine g_lv (lv' := [(0, .ref (w.2.1 (147)))]) [0] rfl ?_
                  exact j_X8_copy_95 C h
                · refine g_iload (pc := 77) C 4 rfl dX8_copy_77 ?_
                  refine g_i2l (pc := 79) C dX8_copy_79 ?_
                  refine g_iload (pc := 80) C 5 rfl dX8_copy_80 ?_
                  refine g_i2l (pc := 82) C dX8_copy_82 ?_
                  refine g_ladd (pc := 83) C dX8_copy_83 ?_
                  refine g_aload_n (pc := 84) C 0 rfl dX8_copy_84 rfl ?_
                  refine g_get (pc := 85) C so_RX8 5 fl_RX8_13 (v := .ref (w.2.1 (149))) rfl dX8_copy_85 ?_
                  refine g_iload_n (pc := 88) C 3 rfl dX8_copy_88 rfl ?_
                  refine g_iald (pc := 89) C si_149 dX8_copy_89 (fun hb16 => ?_)
                  refine g_i2l (pc := 90) C dX8_copy_90 ?_
                  refine g_lcmp (pc := 91) C dX8_copy_91 ?_
                  refine g_if_le (pc := 92) (tgt := 101) C dX8_copy_92 (by decide) (fun hc17 => ?_) (fun hc17 => ?_)
                  · refine g_iconst (pc := 101) (v := 0) C dX8_copy_101 kc_0 ?_
                    refine g_istore (pc := 102) C dX8_copy_102 (by decide) (lv' := [(6, .int (0 : Int32)), (0, .ref (w.2.1 (147))), (1, .int x1), (2, .int x2), (3, .int x3), (4, .int x4), (5, .int x5)]) rfl ?_
                    refine g_lv (lv' := [(0, .ref (w.2.1 (147))), (1, .int x1), (2, .int x2), (3, .int x3), (4, .int x4), (5, .int x5), (6, .int (0 : Int32))]) [1, 2, 3, 4, 5, 6, 0] rfl ?_
                    exact j_X8_copy_104 C KF x1 x2 x3 x4 x5 (0 : Int32) h
                  · refine g_lv (lv' := [(0, .ref (w.2.1 (147)))]) [0] rfl ?_
                    exact j_X8_copy_95 C h
          · refine g_lv (lv' := [(0, .ref (w.2.1 (147)))]) [0] rfl ?_
            exact j_X8_copy_45 C h
      · refine g_aload_n (pc := 21) C 0 rfl dX8_copy_21 rfl ?_
        refine g_iconst (pc := 22) (v := 5) C dX8_copy_22 kc_5 ?_
        refine g_callIT (pc := 23) (rest := []) (g_runV C mv_RX8_85 (fun x1 hx1 => m_X8_meets hx1) so_RX8 rfl (by decide) rfl rfl (Nat.le_of_ble_eq_true rfl) dX8_copy_23) (fun q26 => ?_)
        exact g_iretT C dX8_copy_26
/-- SnowHouseModel.mean(I)I -/
def f_X8_mean_44   : Nat → Int32 → Int64 → Int32 → TT → Option (Int32 × TT)
  | 0, _, _, _, _ => none
  | n + 1, x1, x2, x4, h => if inb x1 6 = true then (if (h.1 149 x1.toNatClampNeg) ≤ x4 then if inb x1 6 = true then if ((h.1 149 x1.toNatClampNeg).toInt64) = 0 then none else (f_X8_tellsBy h ((x2 / ((h.1 149 x1.toNatClampNeg).toInt64)).toInt32) (1 : Int32)).bind fun q12 => some (q12.1, q12.2) else none else (f_X8_rowAt h x1 x4).bind fun r13 => nm (x2 + r13.toInt64) fun y14 => f_X8_mean_44 n x1 y14 (x4 + (1 : Int32)) h) else none
set_option maxRecDepth 20000 in
theorem j_X8_mean_44 {p : Program} {l : Launch} {e : Env} {R : Room} {s : State} {m : MethodId} {args : Array Value} {below : List Frame} {meth : Method} {c : Code} {w : WK} (C : CX p R s m args meth c w RX8 cX8_mean 5 (some .int) 2 42)     : ∀ (n : Nat) (x1 : Int32) (x2 : Int64) (x4 : Int32) (h : TT), GO p l e R s m args below meth c w 5 fIT (f_X8_mean_44 n x1 x2 x4 h) 44 [(0, .ref (w.2.1 (147))), (1, .int x1), (2, .long x2), (4, .int x4)] [] h := by
  intro n
  induction n with
  | zero =>
    intro x1 x2 x4 h
    exact g_none
  | succ n ih =>
    intro x1 x2 x4 h
    rw [f_X8_mean_44]
    refine g_iload (pc := 44) C 3 rfl dX8_mean_44 ?_
    refine g_aload_n (pc := 46) C 0 rfl dX8_mean_46 rfl ?_
    refine g_get (pc := 47) C so_RX8 5 fl_RX8_13 (v := .ref (w.2.1 (149))) rfl dX8_mean_47 ?_
    refine g_iload_n (pc := 50) C 1 rfl dX8_mean_50 rfl ?_
    refine g_iald (pc := 51) C si_149 dX8_mean_51 (fun hb8 => ?_)
    refine g_icmp_ge (pc := 52) (tgt := 72) C dX8_mean_52 (by decide) (fun hc9 => ?_) (fun hc9 => ?_)
    · refine g_aload_n (pc := 72) C 0 rfl dX8_mean_72 rfl ?_
      refine g_lload_n (pc := 73) C 2 rfl dX8_mean_73 rfl ?_
      refine g_aload_n (pc := 74) C 0 rfl dX8_mean_74 rfl ?_
      refine g_get (pc := 75) C so_RX8 5 fl_RX8_13 (v := .ref (w.2.1 (149))) rfl dX8_mean_75 ?_
      refine g_iload_n (pc := 78) C 1 rfl dX8_mean_78 rfl ?_
      refine g_iald (pc := 79) C si_149 dX8_mean_79 (fun hb10 => ?_)
      refine g_i2l (pc := 80) C dX8_mean_80 ?_
      refine g_guardp (fun hz11 => ?_)
      refine g_ldiv (pc := 81) C dX8_mean_81 hz11 ?_
      refine g_l2i (pc := 82) C dX8_mean_82 ?_
      refine g_iconst (pc := 83) (v := 1) C dX8_mean_83 kc_1 ?_
      refine g_callIT (pc := 84) (rest := []) (g_runV C mv_RX8_93 (fun x1 hx1 => m_X8_tellsBy hx1) so_RX8 rfl (by decide) rfl rfl (Nat.le_of_ble_eq_true rfl) dX8_mean_84) (fun q12 => ?_)
      exact g_iretT C dX8_mean_87
    · refine g_lload_n (pc := 55) C 2 rfl dX8_mean_55 rfl ?_
      refine g_aload_n (pc := 56) C 0 rfl dX8_mean_56 rfl ?_
      refine g_iload_n (pc := 57) C 1 rfl dX8_mean_57 rfl ?_
      refine g_iload (pc := 58) C 3 rfl dX8_mean_58 ?_
      refine g_callI (pc := 60) (rest := [.long x2]) (g_runV C mv_RX8_89 (fun x1 hx1 => m_X8_rowAt hx1) so_RX8 rfl (by decide) rfl rfl (Nat.le_of_ble_eq_true rfl) dX8_mean_60) (fun r13 => ?_)
      refine g_i2l (pc := 63) C dX8_mean_63 ?_
      refine g_ladd (pc := 64) C dX8_mean_64 ?_
      refine g_nmj (fun y14 => ?_)
      refine g_lstore_n (pc := 65) C dX8_mean_65 rfl (by decide) (lv' := [(2, .long y14), (0, .ref (w.2.1 (147))), (1, .int x1), (4, .int x4)]) rfl ?_
      refine g_iinc (pc := 66) C 3 rfl dX8_mean_66 (ki_1 _) (by decide) (lv' := [(4, .int (x4 + (1 : Int32))), (2, .long y14), (0, .ref (w.2.1 (147))), (1, .int x1)]) rfl ?_
      refine g_goto (pc := 69) (tgt := 44) C dX8_mean_69 (by decide) ?_
      refine g_lv (lv' := [(0, .ref (w.2.1 (147))), (1, .int x1), (2, .long y14), (4, .int (x4 + (1 : Int32)))]) [2, 3, 1, 0] rfl ?_
      exact ih x1 y14 (x4 + (1 : Int32)) h
def f_X8_mean (h : TT) (x1 : Int32) : Option (Int32 × TT) := (f_X8_isRow h x1).bind fun r1 => (if r1 = 0 then some ((-1 : Int32), h) else if inb x1 6 = true then (if 0 ≤ (h.1 149 x1.toNatClampNeg) then if inb x1 6 = true then (if (h.1 149 x1.toNatClampNeg) = 0 then (f_X8_meets h (4 : Int32)).bind fun q7 => some (q7.1, q7.2) else f_X8_mean_44 KF x1 (0 : Int64) (0 : Int32) h) else none else (f_X8_meets h (1 : Int32)).bind fun q15 => some (q15.1, q15.2)) else none)
set_option maxRecDepth 20000 in
theorem m_X8_mean {l : Launch} {w : WK} {h : TT} {x1 : Int32} {x : (Int32 × TT)} (hx : f_X8_mean h x1 = some x)  : Met l yX8_mean (Cond.code yX8_mean cX8_mean 5 (some .int) :: wsG) { frames := 2, cells := 0, slots := 0, locals := 42 } (PG w [.ref (w.2.1 (147)), .int x1] h) (QG w (fIT x)) 0 0 (AA w) := by
  refine m_entry (own := RX8) (f := fIT) hx (by decide) rfl (Nat.le_of_ble_eq_true rfl) (fun p e s m args below meth c C => ?_)
  show GO p l e _ s m args below meth c w 5 fIT (f_X8_mean h x1) 0 [(0, .ref (w.2.1 (147))), (1, .int x1)] [] h
  unfold f_X8_mean
  refine g_iload_n (pc := 0) C 1 rfl dX8_mean_0 rfl ?_
  refine g_callI (pc := 1) (rest := []) (g_runS C ms_RX8_81 (fun x1 hx1 => m_X8_isRow hx1) (by decide) rfl rfl (Nat.le_of_ble_eq_true rfl) dX8_mean_1) (fun r1 => ?_)
  refine g_if_ne (pc := 4) (tgt := 9) C dX8_mean_4 (by decide) (fun hc2 => ?_) (fun hc2 => ?_)
  · refine g_iconst (pc := 7) (v := -1) C dX8_mean_7 kc_m1 ?_
    exact g_iretT C dX8_mean_8
  · refine g_aload_n (pc := 9) C 0 rfl dX8_mean_9 rfl ?_
    refine g_get (pc := 10) C so_RX8 5 fl_RX8_13 (v := .ref (w.2.1 (149))) rfl dX8_mean_10 ?_
    refine g_iload_n (pc := 13) C 1 rfl dX8_mean_13 rfl ?_
    refine g_iald (pc := 14) C si_149 dX8_mean_14 (fun hb3 => ?_)
    refine g_if_ge (pc := 15) (tgt := 24) C dX8_mean_15 (by decide) (fun hc4 => ?_) (fun hc4 => ?_)
    · refine g_aload_n (pc := 24) C 0 rfl dX8_mean_24 rfl ?_
      refine g_get (pc := 25) C so_RX8 5 fl_RX8_13 (v := .ref (w.2.1 (149))) rfl dX8_mean_25 ?_
      refine g_iload_n (pc := 28) C 1 rfl dX8_mean_28 rfl ?_
      refine g_iald (pc := 29) C si_149 dX8_mean_29 (fun hb5 => ?_)
      refine g_if_ne (pc := 30) (tgt := 39) C dX8_mean_30 (by decide) (fun hc6 => ?_) (fun hc6 => ?_)
      · refine g_aload_n (pc := 33) C 0 rfl dX8_mean_33 rfl ?_
        refine g_iconst (pc := 34) (v := 4) C dX8_mean_34 kc_4 ?_
        refine g_callIT (pc := 35) (rest := []) (g_runV C mv_RX8_85 (fun x1 hx1 => m_X8_meets hx1) so_RX8 rfl (by decide) rfl rfl (Nat.le_of_ble_eq_true rfl) dX8_mean_35) (fun q7 => ?_)
        exact g_iretT C dX8_mean_38
      · refine g_lconst (pc := 39) (v := 0) C dX8_mean_39 (by decide) ?_
        refine g_lstore_n (pc := 40) C dX8_mean_40 rfl (by decide) (lv' := [(2, .long (0 : Int64)), (0, .ref (w.2.1 (147))), (1, .int x1)]) rfl ?_
        refine g_iconst (pc := 41) (v := 0) C dX8_mean_41 kc_0 ?_
        refine g_istore (pc := 42) C dX8_mean_42 (by decide) (lv' := [(4, .int (0 : Int32)), (2, .long (0 : Int64)), (0, .ref (w.2.1 (147))), (1, .int x1)]) rfl ?_
        refine g_lv (lv' := [(0, .ref (w.2.1 (147))), (1, .int x1), (2, .long (0 : Int64)), (4, .int (0 : Int32))]) [2, 3, 1, 0] rfl ?_
        exact j_X8_mean_44 C KF x1 (0 : Int64) (0 : Int32) h
    · refine g_aload_n (pc := 18) C 0 rfl dX8_mean_18 rfl ?_
      refine g_iconst (pc := 19) (v := 1) C dX8_mean_19 kc_1 ?_
      refine g_callIT (pc := 20) (rest := []) (g_runV C mv_RX8_85 (fun x1 hx1 => m_X8_meets hx1) so_RX8 rfl (by decide) rfl rfl (Nat.le_of_ble_eq_true rfl) dX8_mean_20) (fun q15 => ?_)
      exact g_iretT C dX8_mean_23
/-- SnowHouseModel.isText(I)Z -/
def f_X8_isText (h : TT) (x0 : Int32) : Option Int32 := (f_X8_in h x0 (0 : Int32) (3 : Int32)).bind fun r1 => if isZ r1 = true then some r1 else none
set_option maxRecDepth 20000 in
theorem m_X8_isText {l : Launch} {w : WK} {h : TT} {x0 : Int32} {x : Int32} (hx : f_X8_isText h x0 = some x)  : Met l yX8_isText (Cond.code yX8_isText cX8_isText 1 (some .boolean) :: wsG) { frames := 1, cells := 0, slots := 0, locals := 22 } (PG w [.int x0] h) (QG w ((fI h) x)) 0 0 (AA w) := by
  refine m_entry (own := RX8) (f := (fI h)) hx (by decide) rfl (Nat.le_of_ble_eq_true rfl) (fun p e s m args below meth c C => ?_)
  show GO p l e _ s m args below meth c w 1 (fI h) (f_X8_isText h x0) 0 [(0, .int x0)] [] h
  unfold f_X8_isText
  refine g_iload_n (pc := 0) C 0 rfl dX8_isText_0 rfl ?_
  refine g_iconst (pc := 1) (v := 0) C dX8_isText_1 kc_0 ?_
  refine g_iconst (pc := 2) (v := 3) C dX8_isText_2 kc_3 ?_
  refine g_callI (pc := 3) (rest := []) (g_runS C ms_RX8_71 (fun x1 hx1 => m_X8_in hx1) (by decide) rfl rfl (Nat.le_of_ble_eq_true rfl) dX8_isText_3) (fun r1 => ?_)
  refine g_guard (fun hz2 => ?_)
  exact g_zret C dX8_isText_6 hz2
/-- SnowHouseModel.text(II)I -/
def f_X8_text_34   : Nat → Int32 → Int32 → Int32 → TT → Option (Int32 × TT)
  | 0, _, _, _, _ => none
  | n + 1, x1, x2, x3, h => (if (80 : Int32) ≤ x3 then some (x2, h) else if inb (((80 : Int32) * x1) + x3) 320 = true then nm (wr h 153 (((80 : Int32) * x1) + x3).toNatClampNeg (vp_nar .byte (32 : Int32))) fun h9 => f_X8_text_34 n x1 x2 (x3 + (1 : Int32)) h9 else none)
set_option maxRecDepth 20000 in
theorem j_X8_text_34 {p : Program} {l : Launch} {e : Env} {R : Room} {s : State} {m : MethodId} {args : Array Value} {below : List Frame} {meth : Method} {c : Code} {w : WK} (C : CX p R s m args meth c w RX8 cX8_text 4 (some .int) 2 42)     : ∀ (n : Nat) (x1 : Int32) (x2 : Int32) (x3 : Int32) (h : TT), GO p l e R s m args below meth c w 4 fIT (f_X8_text_34 n x1 x2 x3 h) 34 [(0, .ref (w.2.1 (147))), (1, .int x1), (2, .int x2), (3, .int x3)] [] h := by
  intro n
  induction n with
  | zero =>
    intro x1 x2 x3 h
    exact g_none
  | succ n ih =>
    intro x1 x2 x3 h
    rw [f_X8_text_34]
    refine g_iload_n (pc := 34) C 3 rfl dX8_text_34 rfl ?_
    refine g_bipush (pc := 35) (v := 80) C dX8_text_35 kb_80 ?_
    refine g_icmp_ge (pc := 37) (tgt := 59) C dX8_text_37 (by decide) (fun hc7 => ?_) (fun hc7 => ?_)
    · refine g_iload_n (pc := 59) C 2 rfl dX8_text_59 rfl ?_
      exact g_iretT C dX8_text_60
    · refine g_aload_n (pc := 40) C 0 rfl dX8_text_40 rfl ?_
      refine g_get (pc := 41) C so_RX8 9 fl_RX8_25 (v := .ref (w.2.1 (153))) rfl dX8_text_41 ?_
      refine g_bipush (pc := 44) (v := 80) C dX8_text_44 kb_80 ?_
      refine g_iload_n (pc := 46) C 1 rfl dX8_text_46 rfl ?_
      refine g_imul (pc := 47) C dX8_text_47 ?_
      refine g_iload_n (pc := 48) C 3 rfl dX8_text_48 rfl ?_
      refine g_iadd (pc := 49) C dX8_text_49 ?_
      refine g_bipush (pc := 50) (v := 32) C dX8_text_50 kb_32 ?_
      refine g_bast (pc := 52) C sb_153 dX8_text_52 (fun hb8 => ?_)
      refine g_nm (fun h9 => ?_)
      refine g_iinc (pc := 53) C 3 rfl dX8_text_53 (ki_1 _) (by decide) (lv' := [(3, .int (x3 + (1 : Int32))), (0, .ref (w.2.1 (147))), (1, .int x1), (2, .int x2)]) rfl ?_
      refine g_goto (pc := 56) (tgt := 34) C dX8_text_56 (by decide) ?_
      refine g_lv (lv' := [(0, .ref (w.2.1 (147))), (1, .int x1), (2, .int x2), (3, .int (x3 + (1 : Int32)))]) [1, 2, 3, 0] rfl ?_
      exact ih x1 x2 (x3 + (1 : Int32)) h9
def f_X8_text (h : TT) (x1 : Int32) (x2 : Int32) : Option (Int32 × TT) := (f_X8_isText h x1).bind fun r1 => (if r1 = 0 then some ((-1 : Int32), h) else (if x2 ≤ (80 : Int32) then (if 0 ≤ x2 then if inb x1 4 = true then nm (wr h 152 x1.toNatClampNeg x2) fun h6 => f_X8_text_34 KF x1 x2 (0 : Int32) h6 else none else (f_X8_meets h (5 : Int32)).bind fun q10 => some (q10.1, q10.2)) else some ((-1 : Int32), h)))
set_option maxRecDepth 20000 in
theorem m_X8_text {l : Launch} {w : WK} {h : TT} {x1 : Int32} {x2 : Int32} {x : (Int32 × TT)} (hx : f_X8_text h x1 x2 = some x)  : Met l yX8_text (Cond.code yX8_text cX8_text 4 (some .int) :: wsG) { frames := 2, cells := 0, slots := 0, locals := 42 } (PG w [.ref (w.2.1 (147)), .int x1, .int x2] h) (QG w (fIT x)) 0 0 (AA w) := by
  refine m_entry (own := RX8) (f := fIT) hx (by decide) rfl (Nat.le_of_ble_eq_true rfl) (fun p e s m args below meth c C => ?_)
  show GO p l e _ s m args below meth c w 4 fIT (f_X8_text h x1 x2) 0 [(0, .ref (w.2.1 (147))), (1, .int x1), (2, .int x2)] [] h
  unfold f_X8_text
  refine g_iload_n (pc := 0) C 1 rfl dX8_text_0 rfl ?_
  refine g_callI (pc := 1) (rest := []) (g_runS C ms_RX8_96 (fun x1 hx1 => m_X8_isText hx1) (by decide) rfl rfl (Nat.le_of_ble_eq_true rfl) dX8_text_1) (fun r1 => ?_)
  refine g_if_eq (pc := 4) (tgt := 13) C dX8_text_4 (by decide) (fun hc2 => ?_) (fun hc2 => ?_)
  · refine g_iconst (pc := 13) (v := -1) C dX8_text_13 kc_m1 ?_
    exact g_iretT C dX8_text_14
  · refine g_iload_n (pc := 7) C 2 rfl dX8_text_7 rfl ?_
    refine g_bipush (pc := 8) (v := 80) C dX8_text_8 kb_80 ?_
    refine g_icmp_le (pc := 10) (tgt := 15) C dX8_text_10 (by decide) (fun hc3 => ?_) (fun hc3 => ?_)
    · refine g_iload_n (pc := 15) C 2 rfl dX8_text_15 rfl ?_
      refine g_if_ge (pc := 16) (tgt := 25) C dX8_text_16 (by decide) (fun hc4 => ?_) (fun hc4 => ?_)
      · refine g_aload_n (pc := 25) C 0 rfl dX8_text_25 rfl ?_
        refine g_get (pc := 26) C so_RX8 8 fl_RX8_22 (v := .ref (w.2.1 (152))) rfl dX8_text_26 ?_
        refine g_iload_n (pc := 29) C 1 rfl dX8_text_29 rfl ?_
        refine g_iload_n (pc := 30) C 2 rfl dX8_text_30 rfl ?_
        refine g_iast (pc := 31) C si_152 dX8_text_31 (fun hb5 => ?_)
        refine g_nm (fun h6 => ?_)
        refine g_iconst (pc := 32) (v := 0) C dX8_text_32 kc_0 ?_
        refine g_istore_n (pc := 33) C dX8_text_33 rfl (by decide) (lv' := [(3, .int (0 : Int32)), (0, .ref (w.2.1 (147))), (1, .int x1), (2, .int x2)]) rfl ?_
        refine g_lv (lv' := [(0, .ref (w.2.1 (147))), (1, .int x1), (2, .int x2), (3, .int (0 : Int32))]) [1, 2, 3, 0] rfl ?_
        exact j_X8_text_34 C KF x1 x2 (0 : Int32) h6
      · refine g_aload_n (pc := 19) C 0 rfl dX8_text_19 rfl ?_
        refine g_iconst (pc := 20) (v := 5) C dX8_text_20 kc_5 ?_
        refine g_callIT (pc := 21) (rest := []) (g_runV C mv_RX8_85 (fun x1 hx1 => m_X8_meets hx1) so_RX8 rfl (by decide) rfl rfl (Nat.le_of_ble_eq_true rfl) dX8_text_21) (fun q10 => ?_)
        exact g_iretT C dX8_text_24
    · refine g_iconst (pc := 13) (v := -1) C dX8_text_13 kc_m1 ?_
      exact g_iretT C dX8_text_14
/-- SnowHouseModel.put(III)I -/
def f_X8_put (h : TT) (x1 : Int32) (x2 : Int32) (x3 : Int32) : Option (Int32 × TT) := (f_X8_isText h x1).bind fun r1 => (if r1 = 0 then some ((-1 : Int32), h) else if inb x1 4 = true then (if 0 ≤ (h.1 152 x1.toNatClampNeg) then if inb x1 4 = true then (f_X8_in h x2 (0 : Int32) ((h.1 152 x1.toNatClampNeg) - (1 : Int32))).bind fun r6 => (if r6 = 0 then (f_X8_meets h (2 : Int32)).bind fun q8 => some (q8.1, q8.2) else if inb (((80 : Int32) * x1) + x2) 320 = true then nm (h.1 153 (((80 : Int32) * x1) + x2).toNatClampNeg) fun y10 => if inb (((80 : Int32) * x1) + x2) 320 = true then nm (wr h 153 (((80 : Int32) * x1) + x2).toNatClampNeg (vp_nar .byte x3.toInt8.toInt32)) fun h12 => some ((1000 : Int32) + y10, h12) else none else none) else none else (f_X8_meets h (1 : Int32)).bind fun q13 => some (q13.1, q13.2)) else none)
set_option maxRecDepth 20000 in
theorem m_X8_put {l : Launch} {w : WK} {h : TT} {x1 : Int32} {x2 : Int32} {x3 : Int32} {x : (Int32 × TT)} (hx : f_X8_put h x1 x2 x3 = some x)  : Met l yX8_put (Cond.code yX8_put cX8_put 5 (some .int) :: wsG) { frames := 2, cells := 0, slots := 0, locals := 42 } (PG w [.ref (w.2.1 (147)), .int x1, .int x2, .int x3] h) (QG w (fIT x)) 0 0 (AA w) := by
  refine m_entry (own := RX8) (f := fIT) hx (by decide) rfl (Nat.le_of_ble_eq_true rfl) (fun p e s m args below meth c C => ?_)
  show GO p l e _ s m args below meth c w 5 fIT (f_X8_put h x1 x2 x3) 0 [(0, .ref (w.2.1 (147))), (1, .int x1), (2, .int x2), (3, .int x3)] [] h
  unfold f_X8_put
  refine g_iload_n (pc := 0) C 1 rfl dX8_put_0 rfl ?_
  refine g_callI (pc := 1) (rest := []) (g_runS C ms_RX8_96 (fun x1 hx1 => m_X8_isText hx1) (by decide) rfl rfl (Nat.le_of_ble_eq_true rfl) dX8_put_1) (fun r1 => ?_)
  refine g_if_ne (pc := 4) (tgt := 9) C dX8_put_4 (by decide) (fun hc2 => ?_) (fun hc2 => ?_)
  · refine g_iconst (pc := 7) (v := -1) C dX8_put_7 kc_m1 ?_
    exact g_iretT C dX8_put_8
  · refine g_aload_n (pc := 9) C 0 rfl dX8_put_9 rfl ?_
    refine g_get (pc := 10) C so_RX8 8 fl_RX8_22 (v := .ref (w.2.1 (152))) rfl dX8_put_10 ?_
    refine g_iload_n (pc := 13) C 1 rfl dX8_put_13 rfl ?_
    refine g_iald (pc := 14) C si_152 dX8_put_14 (fun hb3 => ?_)
    refine g_if_ge (pc := 15) (tgt := 24) C dX8_put_15 (by decide) (fun hc4 => ?_) (fun hc4 => ?_)
    · refine g_iload_n (pc := 24) C 2 rfl dX8_put_24 rfl ?_
      refine g_iconst (pc := 25) (v := 0) C dX8_put_25 kc_0 ?_
      refine g_aload_n (pc := 26) C 0 rfl dX8_put_26 rfl ?_
      refine g_get (pc := 27) C so_RX8 8 fl_RX8_22 (v := .ref (w.2.1 (152))) rfl dX8_put_27 ?_
      refine g_iload_n (pc := 30) C 1 rfl dX8_put_30 rfl ?_
      refine g_iald (pc := 31) C si_152 dX8_put_31 (fun hb5 => ?_)
      refine g_iconst (pc := 32) (v := 1) C dX8_put_32 kc_1 ?_
      refine g_isub (pc := 33) C dX8_put_33 ?_
      refine g_callI (pc := 34) (rest := []) (g_runS C ms_RX8_71 (fun x1 hx1 => m_X8_in hx1) (by decide) rfl rfl (Nat.le_of_ble_eq_true rfl) dX8_put_34) (fun r6 => ?_)
      refine g_if_ne (pc := 37) (tgt := 46) C dX8_put_37 (by decide) (fun hc7 => ?_) (fun hc7 => ?_)
      · refine g_aload_n (pc := 40) C 0 rfl dX8_put_40 rfl ?_
        refine g_iconst (pc := 41) (v := 2) C dX8_put_41 kc_2 ?_
        refine g_callIT (pc := 42) (rest := []) (g_runV C mv_RX8_85 (fun x1 hx1 => m_X8_meets hx1) so_RX8 rfl (by decide) rfl rfl (Nat.le_of_ble_eq_true rfl) dX8_put_42) (fun q8 => ?_)
        exact g_iretT C dX8_put_45
      · refine g_aload_n (pc := 46) C 0 rfl dX8_put_46 rfl ?_
        refine g_get (pc := 47) C so_RX8 9 fl_RX8_25 (v := .ref (w.2.1 (153))) rfl dX8_put_47 ?_
        refine g_bipush (pc := 50) (v := 80) C dX8_put_50 kb_80 ?_
        refine g_iload_n (pc := 52) C 1 rfl dX8_put_52 rfl ?_
        refine g_imul (pc := 53) C dX8_put_53 ?_
        refine g_iload_n (pc := 54) C 2 rfl dX8_put_54 rfl ?_
        refine g_iadd (pc := 55) C dX8_put_55 ?_
        refine g_bald (pc := 56) C sb_153 dX8_put_56 (fun hb9 => ?_)
        refine g_nmi (fun y10 => ?_)
        refine g_istore (pc := 57) C dX8_put_57 (by decide) (lv' := [(4, .int y10), (0, .ref (w.2.1 (147))), (1, .int x1), (2, .int x2), (3, .int x3)]) rfl ?_
        refine g_aload_n (pc := 59) C 1 rfl dX8_put_59 rfl ?_
        refine g_get (pc := 60) C so_RX8 9 fl_RX8_25 (v := .ref (w.2.1 (153))) rfl dX8_put_60 ?_
        refine g_bipush (pc := 63) (v := 80) C dX8_put_63 kb_80 ?_
        refine g_iload_n (pc := 65) C 2 rfl dX8_put_65 rfl ?_
        refine g_imul (pc := 66) C dX8_put_66 ?_
        refine g_iload_n (pc := 67) C 3 rfl dX8_put_67 rfl ?_
        refine g_iadd (pc := 68) C dX8_put_68 ?_
        refine g_iload_n (pc := 69) C 4 rfl dX8_put_69 rfl ?_
        refine g_i2b (pc := 70) C dX8_put_70 ?_
        refine g_bast (pc := 71) C sb_153 dX8_put_71 (fun hb11 => ?_)
        refine g_nm (fun h12 => ?_)
        refine g_sipush (pc := 72) (v := 1000) C dX8_put_72 ks_1000 ?_
        refine g_iload (pc := 75) C 0 rfl dX8_put_75 ?_
        refine g_iadd (pc := 77) C dX8_put_77 ?_
        exact g_iretT C dX8_put_78
    · refine g_aload_n (pc := 18) C 0 rfl dX8_put_18 rfl ?_
      refine g_iconst (pc := 19) (v := 1) C dX8_put_19 kc_1 ?_
      refine g_callIT (pc := 20) (rest := []) (g_runV C mv_RX8_85 (fun x1 hx1 => m_X8_meets hx1) so_RX8 rfl (by decide) rfl rfl (Nat.le_of_ble_eq_true rfl) dX8_put_20) (fun q13 => ?_)
      exact g_iretT C dX8_put_23
/-- SnowHouseModel.byteAt(II)I -/
def f_X8_byteAt (h : TT) (x1 : Int32) (x2 : Int32) : Option Int32 := if inb x1 4 = true then (if (h.1 152 x1.toNatClampNeg) ≤ x2 then some (0 : Int32) else if inb (((80 : Int32) * x1) + x2) 320 = true then some (h.1 153 (((80 : Int32) * x1) + x2).toNatClampNeg) else none) else none
set_option maxRecDepth 20000 in
theorem m_X8_byteAt {l : Launch} {w : WK} {h : TT} {x1 : Int32} {x2 : Int32} {x : Int32} (hx : f_X8_byteAt h x1 x2 = some x)  : Met l yX8_byteAt (Cond.code yX8_byteAt cX8_byteAt 3 (some .int) :: wsG) { frames := 0, cells := 0, slots := 0, locals := 0 } (PG w [.ref (w.2.1 (147)), .int x1, .int x2] h) (QG w ((fI h) x)) 0 0 (AA w) := by
  refine m_entry (own := RX8) (f := (fI h)) hx (by decide) rfl (Nat.le_of_ble_eq_true rfl) (fun p e s m args below meth c C => ?_)
  show GO p l e _ s m args below meth c w 3 (fI h) (f_X8_byteAt h x1 x2) 0 [(0, .ref (w.2.1 (147))), (1, .int x1), (2, .int x2)] [] h
  unfold f_X8_byteAt
  refine g_iload_n (pc := 0) C 2 rfl dX8_byteAt_0 rfl ?_
  refine g_aload_n (pc := 1) C 0 rfl dX8_byteAt_1 rfl ?_
  refine g_get (pc := 2) C so_RX8 8 fl_RX8_22 (v := .ref (w.2.1 (152))) rfl dX8_byteAt_2 ?_
  refine g_iload_n (pc := 5) C 1 rfl dX8_byteAt_5 rfl ?_
  refine g_iald (pc := 6) C si_152 dX8_byteAt_6 (fun hb1 => ?_)
  refine g_icmp_ge (pc := 7) (tgt := 24) C dX8_byteAt_7 (by decide) (fun hc2 => ?_) (fun hc2 => ?_)
  · refine g_iconst (pc := 24) (v := 0) C dX8_byteAt_24 kc_0 ?_
    exact g_iret C dX8_byteAt_25
  · refine g_aload_n (pc := 10) C 0 rfl dX8_byteAt_10 rfl ?_
    refine g_get (pc := 11) C so_RX8 9 fl_RX8_25 (v := .ref (w.2.1 (153))) rfl dX8_byteAt_11 ?_
    refine g_bipush (pc := 14) (v := 80) C dX8_byteAt_14 kb_80 ?_
    refine g_iload_n (pc := 16) C 1 rfl dX8_byteAt_16 rfl ?_
    refine g_imul (pc := 17) C dX8_byteAt_17 ?_
    refine g_iload_n (pc := 18) C 2 rfl dX8_byteAt_18 rfl ?_
    refine g_iadd (pc := 19) C dX8_byteAt_19 ?_
    refine g_bald (pc := 20) C sb_153 dX8_byteAt_20 (fun hb3 => ?_)
    refine g_goto (pc := 21) (tgt := 25) C dX8_byteAt_21 (by decide) ?_
    exact g_iret C dX8_byteAt_25
/-- SnowHouseModel.sign(II)Z -/
def f_X8_sign_33   (x3 : Int32) (xs0 : Int32) (xs1 : Int32) (h : TT) : Option (Int32 × TT) := nm (wr h 147 14 (xs1 + xs0)) fun h4 => if isZ x3 = true then some (x3, h4) else none
set_option maxRecDepth 20000 in
theorem j_X8_sign_33 {p : Program} {l : Launch} {e : Env} {R : Room} {s : State} {m : MethodId} {args : Array Value} {below : List Frame} {meth : Method} {c : Code} {w : WK} (C : CX p R s m args meth c w RX8 cX8_sign 4 (some .boolean) 1 22)     (x3 : Int32) (xs0 : Int32) (xs1 : Int32)  (h : TT) : GO p l e R s m args below meth c w 4 fIT (f_X8_sign_33 x3 xs0 xs1 h) 33 [(3, .int x3)] [.int xs0, .int xs1, .ref (w.2.1 (147))] h := by
  unfold f_X8_sign_33
  refine g_iadd (pc := 33) C dX8_sign_33 ?_
  refine g_putI (pc := 34) C so_RX8 14 fp_RX8_99 (se_RX8_14 _) rfl rfl (sl_RX8_14) dX8_sign_34 ?_
  refine g_nm (fun h4 => ?_)
  refine g_iload_n (pc := 37) C 0 rfl dX8_sign_37 rfl ?_
  refine g_guard (fun hz5 => ?_)
  exact g_zretT C dX8_sign_38 hz5
def f_X8_sign_18   (xs0 : Int32) (h : TT) : Option (Int32 × TT) := (if xs0 = 0 then f_X8_sign_33 xs0 (0 : Int32) (h.1 147 14) h else f_X8_sign_33 xs0 (1 : Int32) (h.1 147 14) h)
set_option maxRecDepth 20000 in
theorem j_X8_sign_18 {p : Program} {l : Launch} {e : Env} {R : Room} {s : State} {m : MethodId} {args : Array Value} {below : List Frame} {meth : Method} {c : Code} {w : WK} (C : CX p R s m args meth c w RX8 cX8_sign 4 (some .boolean) 1 22)     (xs0 : Int32)  (h : TT) : GO p l e R s m args below meth c w 4 fIT (f_X8_sign_18 xs0 h) 18 [(0, .ref (w.2.1 (147)))] [.int xs0] h := by
  unfold f_X8_sign_18
  refine g_istore_n (pc := 18) C dX8_sign_18 rfl (by decide) (lv' := [(3, .int xs0), (0, .ref (w.2.1 (147)))]) rfl ?_
  refine g_aload_n (pc := 19) C 1 rfl dX8_sign_19 rfl ?_
  refine g_dup (pc := 20) C dX8_sign_20 rfl ?_
  refine g_get (pc := 21) C so_RX8 14 fl_RX8_99 (v := .int (h.1 147 14)) rfl dX8_sign_21 ?_
  refine g_iload_n (pc := 24) C 0 rfl dX8_sign_24 rfl ?_
  refine g_if_eq (pc := 25) (tgt := 32) C dX8_sign_25 (by decide) (fun hc3 => ?_) (fun hc3 => ?_)
  · refine g_iconst (pc := 32) (v := 0) C dX8_sign_32 kc_0 ?_
    refine g_lv (lv' := [(3, .int xs0)]) [0] rfl ?_
    exact j_X8_sign_33 C xs0 (0 : Int32) (h.1 147 14) h
  · refine g_iconst (pc := 28) (v := 1) C dX8_sign_28 kc_1 ?_
    refine g_goto (pc := 29) (tgt := 33) C dX8_sign_29 (by decide) ?_
    refine g_lv (lv' := [(3, .int xs0)]) [0] rfl ?_
    exact j_X8_sign_33 C xs0 (1 : Int32) (h.1 147 14) h
def f_X8_sign (h : TT) (x1 : Int32) (x2 : Int32) : Option (Int32 × TT) := (f_X8_byteAt h x1 (h.1 147 14)).bind fun r1 => (if r1 = x2 then f_X8_sign_18 (1 : Int32) h else f_X8_sign_18 (0 : Int32) h)
set_option maxRecDepth 20000 in
theorem m_X8_sign {l : Launch} {w : WK} {h : TT} {x1 : Int32} {x2 : Int32} {x : (Int32 × TT)} (hx : f_X8_sign h x1 x2 = some x)  : Met l yX8_sign (Cond.code yX8_sign cX8_sign 4 (some .boolean) :: wsG) { frames := 1, cells := 0, slots := 0, locals := 22 } (PG w [.ref (w.2.1 (147)), .int x1, .int x2] h) (QG w (fIT x)) 0 0 (AA w) := by
  refine m_entry (own := RX8) (f := fIT) hx (by decide) rfl (Nat.le_of_ble_eq_true rfl) (fun p e s m args below meth c C => ?_)
  show GO p l e _ s m args below meth c w 4 fIT (f_X8_sign h x1 x2) 0 [(0, .ref (w.2.1 (147))), (1, .int x1), (2, .int x2)] [] h
  unfold f_X8_sign
  refine g_aload_n (pc := 0) C 0 rfl dX8_sign_0 rfl ?_
  refine g_iload_n (pc := 1) C 1 rfl dX8_sign_1 rfl ?_
  refine g_aload_n (pc := 2) C 0 rfl dX8_sign_2 rfl ?_
  refine g_get (pc := 3) C so_RX8 14 fl_RX8_99 (v := .int (h.1 147 14)) rfl dX8_sign_3 ?_
  refine g_callI (pc := 6) (rest := []) (g_runV C mv_RX8_102 (fun x1 hx1 => m_X8_byteAt hx1) so_RX8 rfl (by decide) rfl rfl (Nat.le_of_ble_eq_true rfl) dX8_sign_6) (fun r1 => ?_)
  refine g_iload_n (pc := 9) C 2 rfl dX8_sign_9 rfl ?_
  refine g_icmp_ne (pc := 10) (tgt := 17) C dX8_sign_10 (by decide) (fun hc2 => ?_) (fun hc2 => ?_)
  · refine g_iconst (pc := 13) (v := 1) C dX8_sign_13 kc_1 ?_
    refine g_goto (pc := 14) (tgt := 18) C dX8_sign_14 (by decide) ?_
    refine g_lv (lv' := [(0, .ref (w.2.1 (147)))]) [0] rfl ?_
    exact j_X8_sign_18 C (1 : Int32) h
  · refine g_iconst (pc := 17) (v := 0) C dX8_sign_17 kc_0 ?_
    refine g_lv (lv' := [(0, .ref (w.2.1 (147)))]) [0] rfl ?_
    exact j_X8_sign_18 C (0 : Int32) h
/-- SnowHouseModel.number(III)Z -/
def f_X8_number_67   (x2 : Int32) (x3 : Int32) (x4 : Int32) (x5 : Int32) (h : TT) : Option (Int32 × TT) := nm (wr h 147 15 x5) fun h2 => (if x4 ≤ 0 then some ((0 : Int32), h2) else (f_X8_in h2 x5 x2 x3).bind fun r4 => (if r4 = 0 then some ((0 : Int32), h2) else some ((1 : Int32), h2)))
set_option maxRecDepth 20000 in
theorem j_X8_number_67 {p : Program} {l : Launch} {e : Env} {R : Room} {s : State} {m : MethodId} {args : Array Value} {below : List Frame} {meth : Method} {c : Code} {w : WK} (C : CX p R s m args meth c w RX8 cX8_number 6 (some .boolean) 1 22)     (x2 : Int32) (x3 : Int32) (x4 : Int32) (x5 : Int32)  (h : TT) : GO p l e R s m args below meth c w 6 fIT (f_X8_number_67 x2 x3 x4 x5 h) 67 [(0, .ref (w.2.1 (147))), (2, .int x2), (3, .int x3), (4, .int x4), (5, .int x5)] [] h := by
  unfold f_X8_number_67
  refine g_aload_n (pc := 67) C 0 rfl dX8_number_67 rfl ?_
  refine g_iload (pc := 68) C 4 rfl dX8_number_68 ?_
  refine g_putI (pc := 70) C so_RX8 15 fp_RX8_105 (se_RX8_15 _) rfl rfl (sl_RX8_15) dX8_number_70 ?_
  refine g_nm (fun h2 => ?_)
  refine g_iload (pc := 73) C 3 rfl dX8_number_73 ?_
  refine g_if_le (pc := 75) (tgt := 92) C dX8_number_75 (by decide) (fun hc3 => ?_) (fun hc3 => ?_)
  · refine g_iconst (pc := 92) (v := 0) C dX8_number_92 kc_0 ?_
    exact g_zretT C dX8_number_93 rfl
  · refine g_iload (pc := 78) C 4 rfl dX8_number_78 ?_
    refine g_iload_n (pc := 80) C 1 rfl dX8_number_80 rfl ?_
    refine g_iload_n (pc := 81) C 2 rfl dX8_number_81 rfl ?_
    refine g_callI (pc := 82) (rest := []) (g_runS C ms_RX8_71 (fun x1 hx1 => m_X8_in hx1) (by decide) rfl rfl (Nat.le_of_ble_eq_true rfl) dX8_number_82) (fun r4 => ?_)
    refine g_if_eq (pc := 85) (tgt := 92) C dX8_number_85 (by decide) (fun hc5 => ?_) (fun hc5 => ?_)
    · refine g_iconst (pc := 92) (v := 0) C dX8_number_92 kc_0 ?_
      exact g_zretT C dX8_number_93 rfl
    · refine g_iconst (pc := 88) (v := 1) C dX8_number_88 kc_1 ?_
      refine g_goto (pc := 89) (tgt := 93) C dX8_number_89 (by decide) ?_
      exact g_zretT C dX8_number_93 rfl
def f_X8_number_6   : Nat → Int32 → Int32 → Int32 → Int32 → Int32 → TT → Option (Int32 × TT)
  | 0, _, _, _, _, _, _ => none
  | n + 1, x1, x2, x3, x4, x5, h => (if (2 : Int32) ≤ x4 then f_X8_number_67 x2 x3 x4 x5 h else (f_X8_byteAt h x1 (h.1 147 14)).bind fun r6 => (f_X8_in h r6 (48 : Int32) (57 : Int32)).bind fun r7 => (if r7 = 0 then f_X8_number_67 x2 x3 x4 x5 h else (f_X8_byteAt h x1 (h.1 147 14)).bind fun r9 => nm ((((10 : Int32) * x5) + r9) - (48 : Int32)) fun y10 => nm (wr h 147 14 ((h.1 147 14) + (1 : Int32))) fun h11 => f_X8_number_6 n x1 x2 x3 (x4 + (1 : Int32)) y10 h11))
set_option maxRecDepth 20000 in
theorem j_X8_number_6 {p : Program} {l : Launch} {e : Env} {R : Room} {s : State} {m : MethodId} {args : Array Value} {below : List Frame} {meth : Method} {c : Code} {w : WK} (C : CX p R s m args meth c w RX8 cX8_number 6 (some .boolean) 1 22)     : ∀ (n : Nat) (x1 : Int32) (x2 : Int32) (x3 : Int32) (x4 : Int32) (x5 : Int32) (h : TT), GO p l e R s m args below meth c w 6 fIT (f_X8_number_6 n x1 x2 x3 x4 x5 h) 6 [(0, .ref (w.2.1 (147))), (1, .int x1), (2, .int x2), (3, .int x3), (4, .int x4), (5, .int x5)] [] h := by
  intro n
  induction n with
  | zero =>
    intro x1 x2 x3 x4 x5 h
    exact g_none
  | succ n ih =>
    intro x1 x2 x3 x4 x5 h
    rw [f_X8_number_6]
    refine g_iload (pc := 6) C 4 rfl dX8_number_6 ?_
    refine g_iconst (pc := 8) (v := 2) C dX8_number_8 kc_2 ?_
    refine g_icmp_ge (pc := 9) (tgt := 67) C dX8_number_9 (by decide) (fun hc1 => ?_) (fun hc1 => ?_)
    · refine g_lv (lv' := [(0, .ref (w.2.1 (147))), (2, .int x2), (3, .int x3), (4, .int x4), (5, .int x5)]) [0, 2, 3, 4, 5] rfl ?_
      exact j_X8_number_67 C x2 x3 x4 x5 h
    · refine g_aload_n (pc := 12) C 0 rfl dX8_number_12 rfl ?_
      refine g_iload_n (pc := 13) C 1 rfl dX8_number_13 rfl ?_
      refine g_aload_n (pc := 14) C 0 rfl dX8_number_14 rfl ?_
      refine g_get (pc := 15) C so_RX8 14 fl_RX8_99 (v := .int (h.1 147 14)) rfl dX8_number_15 ?_
      refine g_callI (pc := 18) (rest := []) (g_runV C mv_RX8_102 (fun x1 hx1 => m_X8_byteAt hx1) so_RX8 rfl (by decide) rfl rfl (Nat.le_of_ble_eq_true rfl) dX8_number_18) (fun r6 => ?_)
      refine g_bipush (pc := 21) (v := 48) C dX8_number_21 kb_48 ?_
      refine g_bipush (pc := 23) (v := 57) C dX8_number_23 kb_57 ?_
      refine g_callI (pc := 25) (rest := []) (g_runS C ms_RX8_71 (fun x1 hx1 => m_X8_in hx1) (by decide) rfl rfl (Nat.le_of_ble_eq_true rfl) dX8_number_25) (fun r7 => ?_)
      refine g_if_eq (pc := 28) (tgt := 67) C dX8_number_28 (by decide) (fun hc8 => ?_) (fun hc8 => ?_)
      · refine g_lv (lv' := [(0, .ref (w.2.1 (147))), (2, .int x2), (3, .int x3), (4, .int x4), (5, .int x5)]) [0, 2, 3, 4, 5] rfl ?_
        exact j_X8_number_67 C x2 x3 x4 x5 h
      · refine g_bipush (pc := 31) (v := 10) C dX8_number_31 kb_10 ?_
        refine g_iload (pc := 33) C 5 rfl dX8_number_33 ?_
        refine g_imul (pc := 35) C dX8_number_35 ?_
        refine g_aload_n (pc := 36) C 0 rfl dX8_number_36 rfl ?_
        refine g_iload_n (pc := 37) C 1 rfl dX8_number_37 rfl ?_
        refine g_aload_n (pc := 38) C 0 rfl dX8_number_38 rfl ?_
        refine g_get (pc := 39) C so_RX8 14 fl_RX8_99 (v := .int (h.1 147 14)) rfl dX8_number_39 ?_
        refine g_callI (pc := 42) (rest := [.int ((10 : Int32) * x5)]) (g_runV C mv_RX8_102 (fun x1 hx1 => m_X8_byteAt hx1) so_RX8 rfl (by decide) rfl rfl (Nat.le_of_ble_eq_true rfl) dX8_number_42) (fun r9 => ?_)
        refine g_iadd (pc := 45) C dX8_number_45 ?_
        refine g_bipush (pc := 46) (v := 48) C dX8_number_46 kb_48 ?_
        refine g_isub (pc := 48) C dX8_number_48 ?_
        refine g_nmi (fun y10 => ?_)
        refine g_istore (pc := 49) C dX8_number_49 (by decide) (lv' := [(5, .int y10), (0, .ref (w.2.1 (147))), (1, .int x1), (2, .int x2), (3, .int x3), (4, .int x4)]) rfl ?_
        refine g_aload_n (pc := 51) C 1 rfl dX8_number_51 rfl ?_
        refine g_dup (pc := 52) C dX8_number_52 rfl ?_
        refine g_get (pc := 53) C so_RX8 14 fl_RX8_99 (v := .int (h.1 147 14)) rfl dX8_number_53 ?_
        refine g_iconst (pc := 56) (v := 1) C dX8_number_56 kc_1 ?_
        refine g_iadd (pc := 57) C dX8_number_57 ?_
        refine g_putI (pc := 58) C so_RX8 14 fp_RX8_99 (se_RX8_14 _) rfl rfl (sl_RX8_14) dX8_number_58 ?_
        refine g_nm (fun h11 => ?_)
        refine g_iinc (pc := 61) C 5 rfl dX8_number_61 (ki_1 _) (by decide) (lv' := [(4, .int (x4 + (1 : Int32))), (5, .int y10), (0, .ref (w.2.1 (147))), (1, .int x1), (2, .int x2), (3, .int x3)]) rfl ?_
        refine g_goto (pc := 64) (tgt := 6) C dX8_number_64 (by decide) ?_
        refine g_lv (lv' := [(0, .ref (w.2.1 (147))), (1, .int x1), (2, .int x2), (3, .int x3), (4, .int (x4 + (1 : Int32))), (5, .int y10)]) [2, 3, 4, 5, 0, 1] rfl ?_
        exact ih x1 x2 x3 (x4 + (1 : Int32)) y10 h11
def f_X8_number (h : TT) (x1 : Int32) (x2 : Int32) (x3 : Int32) : Option (Int32 × TT) := f_X8_number_6 KF x1 x2 x3 (0 : Int32) (0 : Int32) h
set_option maxRecDepth 20000 in
theorem m_X8_number {l : Launch} {w : WK} {h : TT} {x1 : Int32} {x2 : Int32} {x3 : Int32} {x : (Int32 × TT)} (hx : f_X8_number h x1 x2 x3 = some x)  : Met l yX8_number (Cond.code yX8_number cX8_number 6 (some .boolean) :: wsG) { frames := 1, cells := 0, slots := 0, locals := 22 } (PG w [.ref (w.2.1 (147)), .int x1, .int x2, .int x3] h) (QG w (fIT x)) 0 0 (AA w) := by
  refine m_entry (own := RX8) (f := fIT) hx (by decide) rfl (Nat.le_of_ble_eq_true rfl) (fun p e s m args below meth c C => ?_)
  show GO p l e _ s m args below meth c w 6 fIT (f_X8_number h x1 x2 x3) 0 [(0, .ref (w.2.1 (147))), (1, .int x1), (2, .int x2), (3, .int x3)] [] h
  unfold f_X8_number
  refine g_iconst (pc := 0) (v := 0) C dX8_number_0 kc_0 ?_
  refine g_istore (pc := 1) C dX8_number_1 (by decide) (lv' := [(4, .int (0 : Int32)), (0, .ref (w.2.1 (147))), (1, .int x1), (2, .int x2), (3, .int x3)]) rfl ?_
  refine g_iconst (pc := 3) (v := 0) C dX8_number_3 kc_0 ?_
  refine g_istore (pc := 4) C dX8_number_4 (by decide) (lv' := [(5, .int (0 : Int32)), (4, .int (0 : Int32)), (0, .ref (w.2.1 (147))), (1, .int x1), (2, .int x2), (3, .int x3)]) rfl ?_
  refine g_lv (lv' := [(0, .ref (w.2.1 (147))), (1, .int x1), (2, .int x2), (3, .int x3), (4, .int (0 : Int32)), (5, .int (0 : Int32))]) [2, 3, 4, 5, 1, 0] rfl ?_
  exact j_X8_number_6 C KF x1 x2 x3 (0 : Int32) (0 : Int32) h
/-- SnowHouseModel.figure(II)Z -/
def f_X8_figure_41   (x3 : Int32) (xs0 : Int32) (xs1 : Int32) (h : TT) : Option (Int32 × TT) := nm (wr h 147 14 (xs1 + xs0)) fun h5 => if isZ x3 = true then some (x3, h5) else none
set_option maxRecDepth 20000 in
theorem j_X8_figure_41 {p : Program} {l : Launch} {e : Env} {R : Room} {s : State} {m : MethodId} {args : Array Value} {below : List Frame} {meth : Method} {c : Code} {w : WK} (C : CX p R s m args meth c w RX8 cX8_figure 4 (some .boolean) 1 22)     (x3 : Int32) (xs0 : Int32) (xs1 : Int32)  (h : TT) : GO p l e R s m args below meth c w 4 fIT (f_X8_figure_41 x3 xs0 xs1 h) 41 [(3, .int x3)] [.int xs0, .int xs1, .ref (w.2.1 (147))] h := by
  unfold f_X8_figure_41
  refine g_iadd (pc := 41) C dX8_figure_41 ?_
  refine g_putI (pc := 42) C so_RX8 14 fp_RX8_99 (se_RX8_14 _) rfl rfl (sl_RX8_14) dX8_figure_42 ?_
  refine g_nm (fun h5 => ?_)
  refine g_iload_n (pc := 45) C 0 rfl dX8_figure_45 rfl ?_
  refine g_guard (fun hz6 => ?_)
  exact g_zretT C dX8_figure_46 hz6
def f_X8_figure (h : TT) (x1 : Int32) (x2 : Int32) : Option (Int32 × TT) := (f_X8_byteAt h x1 (h.1 147 14)).bind fun r1 => nm (wr h 147 15 (r1 - (48 : Int32))) fun h2 => (f_X8_in h2 (h2.1 147 15) x2 (9 : Int32)).bind fun r3 => (if r3 = 0 then f_X8_figure_41 r3 (0 : Int32) (h2.1 147 14) h2 else f_X8_figure_41 r3 (1 : Int32) (h2.1 147 14) h2)
set_option maxRecDepth 20000 in
theorem m_X8_figure {l : Launch} {w : WK} {h : TT} {x1 : Int32} {x2 : Int32} {x : (Int32 × TT)} (hx : f_X8_figure h x1 x2 = some x)  : Met l yX8_figure (Cond.code yX8_figure cX8_figure 4 (some .boolean) :: wsG) { frames := 1, cells := 0, slots := 0, locals := 22 } (PG w [.ref (w.2.1 (147)), .int x1, .int x2] h) (QG w (fIT x)) 0 0 (AA w) := by
  refine m_entry (own := RX8) (f := fIT) hx (by decide) rfl (Nat.le_of_ble_eq_true rfl) (fun p e s m args below meth c C => ?_)
  show GO p l e _ s m args below meth c w 4 fIT (f_X8_figure h x1 x2) 0 [(0, .ref (w.2.1 (147))), (1, .int x1), (2, .int x2)] [] h
  unfold f_X8_figure
  refine g_aload_n (pc := 0) C 0 rfl dX8_figure_0 rfl ?_
  refine g_aload_n (pc := 1) C 0 rfl dX8_figure_1 rfl ?_
  refine g_iload_n (pc := 2) C 1 rfl dX8_figure_2 rfl ?_
  refine g_aload_n (pc := 3) C 0 rfl dX8_figure_3 rfl ?_
  refine g_get (pc := 4) C so_RX8 14 fl_RX8_99 (v := .int (h.1 147 14)) rfl dX8_figure_4 ?_
  refine g_callI (pc := 7) (rest := [.ref (w.2.1 (147))]) (g_runV C mv_RX8_102 (fun x1 hx1 => m_X8_byteAt hx1) so_RX8 rfl (by decide) rfl rfl (Nat.le_of_ble_eq_true rfl) dX8_figure_7) (fun r1 => ?_)
  refine g_bipush (pc := 10) (v := 48) C dX8_figure_10 kb_48 ?_
  refine g_isub (pc := 12) C dX8_figure_12 ?_
  refine g_putI (pc := 13) C so_RX8 15 fp_RX8_105 (se_RX8_15 _) rfl rfl (sl_RX8_15) dX8_figure_13 ?_
  refine g_nm (fun h2 => ?_)
  refine g_aload_n (pc := 16) C 0 rfl dX8_figure_16 rfl ?_
  refine g_get (pc := 17) C so_RX8 15 fl_RX8_105 (v := .int (h2.1 147 15)) rfl dX8_figure_17 ?_
  refine g_iload_n (pc := 20) C 2 rfl dX8_figure_20 rfl ?_
  refine g_bipush (pc := 21) (v := 9) C dX8_figure_21 kb_9 ?_
  refine g_callI (pc := 23) (rest := []) (g_runS C ms_RX8_71 (fun x1 hx1 => m_X8_in hx1) (by decide) rfl rfl (Nat.le_of_ble_eq_true rfl) dX8_figure_23) (fun r3 => ?_)
  refine g_istore_n (pc := 26) C dX8_figure_26 rfl (by decide) (lv' := [(3, .int r3), (0, .ref (w.2.1 (147))), (1, .int x1), (2, .int x2)]) rfl ?_
  refine g_aload_n (pc := 27) C 1 rfl dX8_figure_27 rfl ?_
  refine g_dup (pc := 28) C dX8_figure_28 rfl ?_
  refine g_get (pc := 29) C so_RX8 14 fl_RX8_99 (v := .int (h2.1 147 14)) rfl dX8_figure_29 ?_
  refine g_iload_n (pc := 32) C 0 rfl dX8_figure_32 rfl ?_
  refine g_if_eq (pc := 33) (tgt := 40) C dX8_figure_33 (by decide) (fun hc4 => ?_) (fun hc4 => ?_)
  · refine g_iconst (pc := 40) (v := 0) C dX8_figure_40 kc_0 ?_
    refine g_lv (lv' := [(3, .int r3)]) [0] rfl ?_
    exact j_X8_figure_41 C r3 (0 : Int32) (h2.1 147 14) h2
  · refine g_iconst (pc := 36) (v := 1) C dX8_figure_36 kc_1 ?_
    refine g_goto (pc := 37) (tgt := 41) C dX8_figure_37 (by decide) ?_
    refine g_lv (lv' := [(3, .int r3)]) [0] rfl ?_
    exact j_X8_figure_41 C r3 (1 : Int32) (h2.1 147 14) h2
