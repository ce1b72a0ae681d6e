/-! ===== fault, snow, plan ===== -/
theorem nI_sj (x : Int32) : ∃ q, x = nI q := ⟨x.toBitVec.toNat, by
  apply Int32.toBitVec_inj.1
  unfold nI
  simp⟩
def NS (h h' : TT) : Prop := (∀ i j, ¬ Scr i j → h'.1 i j = h.1 i j) ∧ h'.2 = h.2
section RD
variable {h g : TT} {t n p c q m e i j : Nat} {v x y fo : Int32} {W A F S L Q T V : Nat → Int32}
theorem NS.tr {a b d : TT} (x : NS a b) (y : NS b d) : NS a d := ⟨fun i j e => (y.1 i j e).trans (x.1 i j e), y.2.trans x.2⟩
theorem ns_cs : NS h (CS h t n p c v W A F S L) := ⟨fun i j e => by rw [cs_row (by unfold Scr at e; omega) (by unfold Scr at e; omega) (by unfold Scr at e; omega)], rfl⟩
theorem ns_mz : NS g (MZ g p v c q W Q) := ⟨fun i j e => by
  by_cases z : i = 147
  · subst z
    show rM (g.1 147) p v c q j = _
    unfold rM
    rw [if_neg (by unfold Scr at e; omega), if_neg (by unfold Scr at e; omega), if_neg (by unfold Scr at e; omega), if_neg (by unfold Scr at e; omega)]
  · rw [ms_row z (by unfold Scr at e; omega) (by unfold Scr at e; omega)], rfl⟩
theorem ns_128 : NS h (wr h 128 0 x) := ⟨fun i j e => by rw [wr_1, if_neg (by unfold Scr at e; omega)], rfl⟩
theorem inv_ns (hI : INV h) (s : NS h g) : INV g := inv_gen XX_fr hI ⟨fun i k e _ _ => s.1 i k e, fun i k _ => by rw [s.2]⟩ (by rw [s.1 0 13 (fun z => by unfold Scr at z; omega), s.1 147 2 (fun z => by unfold Scr at z; omega)]; exact hI.1)
theorem c_open (hn : n ≤ 80) : f_X4_open h (10 + t) 80 (nI n) = some (CS h t n 0 0 (h.1 127 6) (h.1 129) (h.1 130) (h.1 131) (h.1 132) (h.1 133)) := by
  unfold f_X4_open
  rw [nm_eq, nm_eq, nm_eq, nm_eq]
  congr 1
  refine Prod.ext (funext fun a => funext fun j => ?_) rfl
  rw [wr_1, wr_1, wr_1, wr_1]
  by_cases e : a = 127
  · subst e
    show _ = rR (h.1 127) t n 0 0 (h.1 127 6) j
    unfold rR
    by_cases j2 : j = 2
    · rw [if_pos ⟨rfl, j2⟩, if_pos j2]; rfl
    · rw [if_neg (fun z => j2 z.2), if_neg j2]
      by_cases j5 : j = 5
      · rw [if_pos ⟨rfl, j5⟩, if_neg (by omega), if_neg (by omega), if_pos j5]; rfl
      · rw [if_neg (fun z => j5 z.2), if_neg j5]
        by_cases j4 : j = 4
        · rw [if_pos ⟨rfl, j4⟩, if_neg (by omega), if_pos j4]
          unfold imin
          rw [if_neg (nI_nlt hn (by omega))]
        · rw [if_neg (fun z => j4 z.2), if_neg j4]
          by_cases j3 : j = 3
          · rw [if_pos ⟨rfl, j3⟩, if_pos j3]
          · rw [if_neg (fun z => j3 z.2), if_neg j3]
            by_cases j6 : j = 6
            · rw [if_pos j6, j6]
            · rw [if_neg j6]
  · rw [if_neg (fun z => e z.1), if_neg (fun z => e z.1), if_neg (fun z => e z.1), if_neg (fun z => e z.1)]
    unfold CS
    simp only [e, if_false]
    split
    · rename_i z; rw [z]
    · split
      · rename_i z; rw [z]
      · split
        · rename_i z; rw [z]
        · split
          · rename_i z; rw [z]
          · split
            · rename_i z; rw [z]
            · rfl
theorem cs_128 : wr (CS h t n p c v W A F S L) 128 0 x = CS (wr h 128 0 x) t n p c v W A F S L := by
  refine Prod.ext (funext fun a => funext fun j => ?_) rfl
  rw [wr_1]
  by_cases e : a = 128
  · subst e
    rw [cs_row (by decide) (by decide) (by decide), cs_row (by decide) (by decide) (by decide), wr_1]
  · rw [if_neg (fun z => e z.1)]
    unfold CS
    simp only [wr_row (show 127 ≠ 128 by decide), wr_row e]
theorem cs_rW {f : Nat → Int32} : wrow (CS h t n p c v W A F S L) 129 f = CS h t n p c v f A F S L := by
  refine Prod.ext (funext fun a => funext fun j => ?_) rfl
  rw [wrow_1]
  by_cases e : a = 129
  · subst e
    rfl
  · rw [if_neg e]
    unfold CS
    simp only [e, if_false]
def W0 (h : TT) : Nat → Int32 := va_cpy (sv 3) (h.1 129) 0 0 4
theorem sv3 : ∀ k, k < 4 → sv 3 k = nI (sv 3 k).toNatClampNeg ∧ (sv 3 k).toNatClampNeg ≤ wHi k := by decide
theorem W0_k {k : Nat} (hk : k < 4) : W0 h k = sv 3 k := by
  unfold W0 va_cpy
  rw [if_pos (by omega), show 0 + (k - 0) = k by omega]
theorem W0_ok : WOK (W0 h) := by
  intro k hk
  unfold gn
  rw [W0_k hk]
  exact sv3 k hk
theorem c_rdS (hn : n ≤ 80) : f_X4_readSnow h (10 + t) 80 (nI n) = f_X4_readSnow_32 (10 + t) 80 KF (nI 0) (CS (wr h 128 0 1) t n 0 0 (h.1 127 6) (W0 h) (h.1 130) (h.1 131) (h.1 132) (h.1 133)) := by
  unfold f_X4_readSnow
  rw [c_open hn, Option.bind_some, nm_eq, cs_128, if_pos (by decide), nm_eq, cs_rW]
  rfl
def A0 (h : TT) : Nat → Int32 := upd (upd (upd (upd (h.1 130) 0 1) 1 0) 2 0) 3 2
theorem c_rdP (hn : n ≤ 80) : f_X4_readPlan h (10 + t) 80 (nI n) = f_X4_readPlan_15 (10 + t) 80 KF (nI 0) (CS h t n 0 0 (h.1 127 6) (h.1 129) (A0 h) (h.1 131) (h.1 132) (h.1 133)) := by
  unfold f_X4_readPlan
  rw [c_open hn, Option.bind_some]
  unfold f_X3_clear
  rw [nm_eq, cs_wA, nm_eq, cs_wA, nm_eq, cs_wA, nm_eq, cs_wA, Option.bind_some]
  rfl
theorem mz_id (e1 : g.1 147 14 = nI p) (e2 : g.1 147 16 = nI c) (e3 : g.1 147 17 = nI q) : g = MZ g p (g.1 147 15) c q (g.1 158) (g.1 159) := by
  refine Prod.ext (funext fun a => funext fun j => ?_) rfl
  by_cases z : a = 147
  · subst z
    show g.1 147 j = rM (g.1 147) p (g.1 147 15) c q j
    unfold rM
    by_cases j1 : j = 14
    · rw [if_pos j1, j1, e1]
    · by_cases j2 : j = 15
      · rw [if_neg j1, if_pos j2, j2]
      · by_cases j3 : j = 16
        · rw [if_neg j1, if_neg j2, if_pos j3, j3, e2]
        · by_cases j4 : j = 17
          · rw [if_neg j1, if_neg j2, if_neg j3, if_pos j4, j4, e3]
          · rw [if_neg j1, if_neg j2, if_neg j3, if_neg j4]
  · by_cases z1 : a = 158
    · rw [z1]; rfl
    · by_cases z2 : a = 159
      · rw [z2]; rfl
      · rw [ms_row z z1 z2]
def V0 (g : TT) : Nat → Int32 := upd (upd (upd (upd (g.1 158) 0 12) 1 4) 2 20) 3 3
theorem V0_k {k : Nat} (hk : k < 4) : V0 g k = sv 3 k := by
  unfold V0
  rcases (show k = 0 ∨ k = 1 ∨ k = 2 ∨ k = 3 by omega) with rfl | rfl | rfl | rfl
  · rw [upd_cases, if_neg (by decide), upd_cases, if_neg (by decide), upd_cases, if_neg (by decide), upd_cases, if_pos rfl]; rfl
  · rw [upd_cases, if_neg (by decide), upd_cases, if_neg (by decide), upd_cases, if_pos rfl]; rfl
  · rw [upd_cases, if_neg (by decide), upd_cases, if_pos rfl]; rfl
  · rw [upd_cases, if_pos rfl]; rfl
theorem m_snF (x : Int32) : ∃ q, f_X8_snowFault g x = f_X8_snowFault_40 KF x (MZ g 0 (g.1 147 15) 0 q (V0 g) (g.1 159)) := by
  obtain ⟨p, e1⟩ := nI_sj (g.1 147 14)
  obtain ⟨c, e2⟩ := nI_sj (g.1 147 16)
  obtain ⟨q, e3⟩ := nI_sj (g.1 147 17)
  refine ⟨q, ?_⟩
  have id := mz_id e1 e2 e3
  have w1 : wr g 147 14 0 = MZ g 0 (g.1 147 15) c q (g.1 158) (g.1 159) := (congrArg (fun s => wr s 147 14 0) id).trans ms_p
  have w2 : ∀ {v W Q}, wr (MZ g 0 v c q W Q) 147 16 0 = MZ g 0 v 0 q W Q := ms_c
  have t1 : (1 : Int32).toNatClampNeg = 1 := nI_clamp (n := 1) (by decide)
  have t2 : (2 : Int32).toNatClampNeg = 2 := nI_clamp (n := 2) (by decide)
  have t3 : (3 : Int32).toNatClampNeg = 3 := nI_clamp (n := 3) (by decide)
  unfold f_X8_snowFault
  rw [nm_eq, w1, nm_eq, w2, if_pos (by decide), nm_eq, tn0, ms_wW, if_pos (by decide), nm_eq, t1, ms_wW, if_pos (by decide), nm_eq, t2, ms_wW, if_pos (by decide), nm_eq, t3, ms_wW]
  rfl
def Q0 (g : TT) : Nat → Int32 := upd (upd (g.1 159) 0 0) 1 2
theorem m_plF (x : Int32) : ∃ c, f_X8_planFault g x = f_X8_planFault_24 KF x (MZ g 0 (g.1 147 15) c 0 (g.1 158) (Q0 g)) := by
  obtain ⟨p, e1⟩ := nI_sj (g.1 147 14)
  obtain ⟨c, e2⟩ := nI_sj (g.1 147 16)
  obtain ⟨q, e3⟩ := nI_sj (g.1 147 17)
  refine ⟨c, ?_⟩
  have id := mz_id e1 e2 e3
  have w1 : wr g 147 14 0 = MZ g 0 (g.1 147 15) c q (g.1 158) (g.1 159) := (congrArg (fun s => wr s 147 14 0) id).trans ms_p
  have w2 : ∀ {v W Q}, wr (MZ g 0 v c q W Q) 147 17 0 = MZ g 0 v c 0 W Q := ms_q
  have t1 : (1 : Int32).toNatClampNeg = 1 := nI_clamp (n := 1) (by decide)
  unfold f_X8_planFault
  rw [nm_eq, w1, nm_eq, w2, if_pos (by decide), nm_eq, tn0, ms_wQ, if_pos (by decide), nm_eq, t1, ms_wQ]
  rfl
theorem PR0 : PR 0 0 (A0 h) F S L (Q0 g) := by
  unfold PR A0 Q0
  refine ⟨?_, ?_, by omega, ?_, by omega, ?_, ?_, ⟨2, by omega, ?_⟩, rfl, fun y hy => by omega⟩
  · rw [upd_cases, if_neg (by decide), upd_cases, if_neg (by decide), upd_cases, if_neg (by decide), upd_cases, if_pos rfl]
  · rw [upd_cases, if_neg (by decide), upd_cases, if_neg (by decide), upd_cases, if_pos rfl]; rfl
  · rw [upd_cases, if_neg (by decide), upd_cases, if_pos rfl]; rfl
  · rw [upd_cases, if_pos rfl, upd_cases, if_pos rfl]
  · rw [upd_cases, if_neg (by decide), upd_cases, if_pos rfl]; rfl
  · rw [upd_cases, if_pos rfl]; rfl
/-- both read a snow -/
theorem TM_of (hI : INV h) (ht : t < 4) (en : h.1 14 t = nI n) {g : TT} (e1 : g.1 152 = h.1 152) (e2 : g.1 153 = h.1 153) : TM g t n (h.1 (10 + t)) := ⟨ht, by rw [e1, ← (hI.2.2.2.2.1 t ht).1, en], fun i hi => by rw [e2]; exact ((hI.2.2.2.2.1 t ht).2.2 i hi).symm⟩
theorem b_snow (hI : INV h) (ht : t < 4) (hn : n ≤ 80) (en : h.1 14 t = nI n) (φ : Int32 → TT → TT) (hφ : ∀ r s, (φ r s).1 152 = s.1 152 ∧ (φ r s).1 153 = s.1 153) : ∃ (r : Int32) (s : TT) (p c : Nat) (v : Int32) (W V : Nat → Int32), s = CS (wr h 128 0 1) t n p c v W (h.1 130) (h.1 131) (h.1 132) (h.1 133) ∧ WOK W ∧ (∀ k, k < 4 → V k = W k) ∧ f_X4_readSnow h (10 + t) 80 (nI n) = some (r, s) ∧ ∃ v q Q, f_X8_snowFault (φ r s) (nI t) = some (r, MZ (φ r s) p v c q V Q) := by
  have H : TC (wr h 128 0 1) t (h.1 (10 + t)) := ⟨ht, fun i _ => by rw [wr_row (by omega)]⟩
  have key : ∀ g, TM g t n (h.1 (10 + t)) → ∃ (r : Int32) (p c : Nat) (v : Int32) (W V : Nat → Int32), WOK W ∧ (∀ k, k < 4 → V k = W k) ∧ f_X4_readSnow h (10 + t) 80 (nI n) = some (r, CS (wr h 128 0 1) t n p c v W (h.1 130) (h.1 131) (h.1 132) (h.1 133)) ∧ ∃ v q Q, f_X8_snowFault g (nI t) = some (r, MZ g p v c q V Q) := fun g G => by
    obtain ⟨r, p', c', W', V', a1, a2, a0, a3, a4⟩ := r_snow H G hn n 0 0 (W0 h) (V0 g) (by omega) (by omega) (by omega) W0_ok (fun k hk => by rw [V0_k hk, W0_k hk])
    obtain ⟨v', z⟩ := a3 KF 0 (h.1 127 6) (h.1 130) (h.1 131) (h.1 132) (h.1 133) (10 + t) 80 (by have := KF_ge; omega) (by omega)
    obtain ⟨q, y⟩ := m_snF (g := g) (nI t)
    obtain ⟨v2, z2⟩ := a4 KF (g.1 147 15) q (g.1 159) (by have := KF_ge; omega)
    exact ⟨r, p', c', v', W', V', a1, a2, by rw [c_rdS hn, z], v2, q, g.1 159, by rw [y, z2]⟩
  obtain ⟨r1, p1, c1, v1, W1, V1, -, -, e1, -⟩ := key h (TM_of hI ht en rfl rfl)
  have G2 := TM_of (g := φ r1 (CS (wr h 128 0 1) t n p1 c1 v1 W1 (h.1 130) (h.1 131) (h.1 132) (h.1 133))) hI ht en (by rw [(hφ _ _).1, cs_row (by decide) (by decide) (by decide), wr_row (by decide)]) (by rw [(hφ _ _).2, cs_row (by decide) (by decide) (by decide), wr_row (by decide)])
  obtain ⟨r, p, c, v, W, V, b1, b2, e2, b3⟩ := key _ G2
  have e3 := Prod.mk.inj (Option.some.inj (e1.symm.trans e2))
  obtain rfl : r1 = r := e3.1
  exact ⟨r1, _, p, c, v, W, V, e3.2, b1, b2, e1, b3⟩
theorem b_plan (hI : INV h) (ht : t < 4) (hn : n ≤ 80) (en : h.1 14 t = nI n) (φ : Int32 → TT → TT) (hφ : ∀ r s, (φ r s).1 152 = s.1 152 ∧ (φ r s).1 153 = s.1 153) (hψ : ∀ r s, (φ r s).1 159 = s.1 159) : ∃ (r : Int32) (s : TT) (p m q : Nat) (v : Int32) (A F S L Q : Nat → Int32), s = CS h t n p 0 v (h.1 129) A F S L ∧ PR m q A F S L Q ∧ (r = -9 → m ≠ 0) ∧ f_X4_readPlan h (10 + t) 80 (nI n) = some (r, s) ∧ ∃ v c W, f_X8_planFault (φ r s) (nI t) = some (r, MZ (φ r s) p v c q W Q) := by
  have H : TC h t (h.1 (10 + t)) := ⟨ht, fun i _ => rfl⟩
  have key : ∀ g, TM g t n (h.1 (10 + t)) → ∃ (r : Int32) (p m q : Nat) (v : Int32) (A F S L Q : Nat → Int32), PR m q A F S L Q ∧ (r = -9 → m ≠ 0) ∧ f_X4_readPlan h (10 + t) 80 (nI n) = some (r, CS h t n p 0 v (h.1 129) A F S L) ∧ ∃ v c W, f_X8_planFault g (nI t) = some (r, MZ g p v c q W Q) := fun g G => by
    obtain ⟨r, p', m', q', A', F', S', L', Q', a1, a2, a3, a4⟩ := r_plan H G hn n 0 0 0 (A0 h) (h.1 131) (h.1 132) (h.1 133) (Q0 g) (by omega) (by omega) PR0
    obtain ⟨v', z⟩ := a3 KF 0 0 (h.1 127 6) (h.1 129) (10 + t) 80 (by have := KF_ge; omega) (by omega)
    obtain ⟨c, y⟩ := m_plF (g := g) (nI t)
    obtain ⟨v2, z2⟩ := a4 KF (g.1 147 15) c (g.1 158) (by have := KF_ge; omega)
    exact ⟨r, p', m', q', v', A', F', S', L', Q', a1, a2, by rw [c_rdP hn, z], v2, c, g.1 158, by rw [y, z2]⟩
  obtain ⟨r1, p1, m1, q1, v1, A1, F1, S1, L1, Q1, -, -, e1, -⟩ := key h (TM_of hI ht en rfl rfl)
  have G2 := TM_of (g := φ r1 (CS h t n p1 0 v1 (h.1 129) A1 F1 S1 L1)) hI ht en (by rw [(hφ _ _).1, cs_row (by decide) (by decide) (by decide)]) (by rw [(hφ _ _).2, cs_row (by decide) (by decide) (by decide)])
  obtain ⟨r, p, m, q, v, A, F, S, L, Q, b1, b2, e2, b3⟩ := key _ G2
  have e3 := Prod.mk.inj (Option.some.inj (e1.symm.trans e2))
  obtain rfl : r1 = r := e3.1
  exact ⟨r1, _, p, m, q, v, A, F, S, L, Q, e3.2, b1, b2, e1, b3⟩
theorem st_fault : ST_fault INV := by
  intro h hI x1 x2 hx
  rcases place x1 4 (by decide) with ⟨t, ht, rfl⟩ | hb
  · have cc : f_X7_fault h (nI t) x2 = (if 0 ≤ h.1 14 t then (if x2 = 0 then (f_X4_readSnow h (10 + t) 80 (h.1 14 t)).bind fun q8 => some (q8.1, q8.2) else (f_X4_readPlan h (10 + t) 80 (h.1 14 t)).bind fun q11 => some (q11.1, q11.2)) else (f_X7_found h (1 : Int32)).bind fun q12 => some (q12.1, q12.2)) := by
      unfold f_X7_fault
      rw [f_below, Option.bind_some, if_pos (lt4 ht).1, if_neg n1_0, nI_clamp (by omega)]
      simp only [inb_nI ht (show 4 < 2 ^ 31 by decide), if_true]
    have mm : ∀ g : TT, f_X8_fault g (nI t) x2 = (if 0 ≤ g.1 152 t then (if x2 = 0 then (f_X8_snowFault g (nI t)).bind fun q6 => some (q6.1, q6.2) else (f_X8_planFault g (nI t)).bind fun q7 => some (q7.1, q7.2)) else (f_X8_meets g (1 : Int32)).bind fun q8 => some (q8.1, q8.2)) := fun g => by
      unfold f_X8_fault
      rw [f_isText, Option.bind_some, if_pos (lt4 ht).2, if_neg n1_0, nI_clamp (by omega)]
      simp only [inb_nI ht (show 4 < 2 ^ 31 by decide), if_true]
    obtain ⟨b1, b2, -⟩ := hI.2.2.2.2.1 t ht
    rcases b2 with b2 | ⟨n, hn, b2⟩
    · refine ⟨-3, hFind h 1, hMeet (hFind h 1) 1, ?_, ?_, inv_find XX_fr.frx hI (by decide)⟩
      · rw [cc, b2, if_neg (by decide)]
        exact fm_find h (by decide) rfl
      · rw [mm, hFind_r (by omega) (by omega), ← b1, b2, if_neg (by decide)]
        exact fm_meet _ (by decide) rfl
    · by_cases z : x2 = 0
      · obtain ⟨r, s, p, c, v, W, V, es, -, -, e1, v', q, Q, e2⟩ := b_snow hI ht hn b2 (fun _ s => s) (fun _ _ => ⟨rfl, rfl⟩)
        refine ⟨r, s, MZ s p v' c q V Q, ?_, ?_, inv_ns hI (NS.tr (by rw [es]; exact ns_128.tr ns_cs) ns_mz)⟩
        · rw [cc, b2, if_pos (nI_pos' (by omega)), if_pos z, e1]; rfl
        · rw [mm, show s.1 152 t = nI n by rw [es, cs_row (by decide) (by decide) (by decide), wr_row (by decide), ← b1, b2], if_pos (nI_pos' (by omega)), if_pos z, e2]; rfl
      · obtain ⟨r, s, p, m, q, v, A, F, S, L, Q, es, -, -, e1, v', c, W, e2⟩ := b_plan hI ht hn b2 (fun _ s => s) (fun _ _ => ⟨rfl, rfl⟩) (fun _ _ => rfl)
        refine ⟨r, s, MZ s p v' c q W Q, ?_, ?_, inv_ns hI (NS.tr (by rw [es]; exact ns_cs) ns_mz)⟩
        · rw [cc, b2, if_pos (nI_pos' (by omega)), if_neg z, e1]; rfl
        · rw [mm, show s.1 152 t = nI n by rw [es, cs_row (by decide) (by decide) (by decide), ← b1, b2], if_pos (nI_pos' (by omega)), if_neg z, e2]; rfl
  · refine ⟨-1, h, h, ?_, ?_, hI⟩
    · unfold f_X7_fault
      rw [f_below, Option.bind_some, if_neg (not_lt4 hb).1, if_pos rfl]
    · unfold f_X8_fault
      rw [f_isText, Option.bind_some, if_neg (not_lt4 hb).2, if_pos rfl]
end RD
