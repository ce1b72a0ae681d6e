/-! ===== snow ===== -/
section RD
variable {h h' g : TT} {t n p c q m e i j k : Nat} {v x y fo : Int32} {W A F S L Q T V : Nat → Int32}
theorem inv_sn (hI : INV h) (hk : k < 4) (e : ∀ i j, ¬ (i = 16 + 2 * k ∨ i = 17 + 2 * k) → ¬ (i = 154 ∧ j = k) → ¬ (i = 155 ∧ 4 * k ≤ j ∧ j < 4 * k + 4) → ¬ Scr i j → h'.1 i j = h.1 i j) (e2 : h'.2 = h.2) (s : SNX h' k) : INV h' := by
  obtain ⟨h1, h2, h3, h4, h5, h6⟩ := hI
  have er : ∀ i, ¬ (i = 16 + 2 * k ∨ i = 17 + 2 * k) → i ≠ 154 → i ≠ 155 → (∀ j, ¬ Scr i j) → h'.1 i = h.1 i := fun i a b c d => funext fun j => e i j a (fun z => b z.1) (fun z => c z.1) (d j)
  have ns : ∀ i j, i < 110 → ¬ Scr i j := fun i j hi z => by unfold Scr at z; omega
  refine ⟨?_, ⟨?_, fun j hj => ?_⟩, by unfold R_frac; rw [e2]; exact h3, R_rows_fr h4 (fun i hi => er i (by omega) (by omega) (by omega) (fun k z => by unfold Scr at z; omega)), R_txt_fr h5 (fun i hi => er i (by omega) (by omega) (by omega) (fun k z => by unfold Scr at z; omega)), fun j hj => ?_, fun j hj => ?_, ?_, fun j hj => ?_⟩
  · unfold R_told
    rw [e 0 13 (by omega) (by omega) (by omega) (fun z => by unfold Scr at z; omega), e 147 2 (by omega) (by omega) (by omega) (fun z => by unfold Scr at z; omega)]
    exact h1
  · rw [e 0 16 (by omega) (by omega) (by omega) (fun z => by unfold Scr at z; omega), e 147 0 (by omega) (by omega) (by omega) (fun z => by unfold Scr at z; omega)]
    exact h2.1
  · rw [e 146 j (by omega) (by omega) (by omega) (fun z => by unfold Scr at z; omega), e 148 j (by omega) (by omega) (by omega) (fun z => by unfold Scr at z; omega)]
    exact h2.2 j hj
  · by_cases ej : j = k
    · rw [ej]; exact s
    · exact (h6.1 j hj).fr (er _ (by omega) (by omega) (by omega) (fun i => ns _ i (by omega))) (er _ (by omega) (by omega) (by omega) (fun i => ns _ i (by omega))) (e 154 j (by omega) (by omega) (by omega) (fun z => by unfold Scr at z; omega)) (fun i hi => e 155 _ (by omega) (by omega) (by omega) (fun z => by unfold Scr at z; omega))
  · exact (h6.2.1 j hj).fr (er _ (by omega) (by omega) (by omega) (fun i => ns _ i (by omega))) (er _ (by omega) (by omega) (by omega) (fun i => ns _ i (by omega))) (er _ (by omega) (by omega) (by omega) (fun i => ns _ i (by omega))) (er _ (by omega) (by omega) (by omega) (fun i => ns _ i (by omega))) (e 156 j (by omega) (by omega) (by omega) (fun z => by unfold Scr at z; omega)) (er 157 (by omega) (by omega) (by omega) (fun i z => by unfold Scr at z; omega))
  · exact h6.2.2.1.fr (fun i hi => er _ (by omega) (by omega) (by omega) (fun i => ns _ i (by omega))) (e 160 0 (by omega) (by omega) (by omega) (fun z => by unfold Scr at z; omega)) (fun i hi => e 161 _ (by omega) (by omega) (by omega) (fun z => by unfold Scr at z; omega))
  · exact (h6.2.2.2 j hj).fr (fun i hi => er _ (by omega) (by omega) (by omega) (fun i => ns _ i (by omega))) (e 160 _ (by omega) (by omega) (by omega) (fun z => by unfold Scr at z; omega)) (fun i hi => e 161 _ (by omega) (by omega) (by omega) (fun z => by unfold Scr at z; omega))
/-- the class takes the snow -/
def tkS (s : TT) (k : Nat) : TT := wrow (wr s (16 + 2 * k) 0 1) (16 + 2 * k + 1) (va_cpy ((wr s (16 + 2 * k) 0 1).1 (128 + 1)) ((wr s (16 + 2 * k) 0 1).1 (16 + 2 * k + 1)) 0 0 4)
theorem c_tkS {s : TT} (e : s.1 128 0 = 1) : f_X5_takeFrom s (16 + 2 * k) 128 = some (tkS s k) := by
  unfold f_X5_takeFrom
  rw [e, if_pos (by decide), nm_eq, if_pos (by decide), nm_eq]
  rfl
theorem m_sn46 {u : TT} (hk : k < 4) : ∀ (d f j : Nat) (u : TT), j + d = 4 → d < f → f_X8_snow_46 f (nI k) (nI j) u = some (u.1 147 16, wr (wrow u 155 (fun i => if 4 * k + j ≤ i ∧ i < 4 * k + 4 then u.1 158 (i - 4 * k) else u.1 155 i)) 154 k 1) := by
  intro d
  induction d with
  | zero =>
    intro f j u hj hf
    obtain ⟨f, rfl⟩ : ∃ g, f = g + 1 := ⟨f - 1, by omega⟩
    obtain rfl : j = 4 := by omega
    rw [f_X8_snow_46, if_pos (show (4 : Int32) ≤ nI 4 by decide), if_pos (inb_nI hk (by decide)), nI_clamp (by omega), nm_eq, show vp_nar .boolean (1 : Int32) = 1 by decide, wr_row (by omega)]
    congr 3
    refine Prod.ext (funext fun b => funext fun j => ?_) rfl
    rw [wrow_1]
    by_cases e : b = 155
    · subst e
      rw [if_pos rfl, if_neg (by omega)]
    · rw [if_neg e]
  | succ d ih =>
    intro f j u hj hf
    obtain ⟨f, rfl⟩ : ∃ g, f = g + 1 := ⟨f - 1, by omega⟩
    rw [f_X8_snow_46, if_neg (show ¬ (4 : Int32) ≤ nI j from nI_ge (b := 4) (by omega) (by omega)), if_pos (inb_nI (by omega) (by decide)), show (4 : Int32) * nI k + nI j = nI (4 * k + j) by rw [show (4 : Int32) = nI 4 from rfl, pk_mul, nI_add], if_pos (inb_nI (by omega) (by decide)), nI_clamp (by omega), nI_clamp (by omega), nm_eq, nI_1, ih f (j + 1) _ (by omega) (by omega), wr_row (show 147 ≠ 155 by omega), wr_row (show 158 ≠ 155 by omega)]
    congr 3
    refine Prod.ext (funext fun b => funext fun i => ?_) rfl
    rw [wrow_1, wrow_1]
    by_cases e : b = 155
    · subst e
      rw [if_pos rfl, if_pos rfl, wr_1]
      by_cases e1 : 4 * k + (j + 1) ≤ i ∧ i < 4 * k + 4
      · rw [if_pos e1, if_pos (by omega)]
      · rw [if_neg e1]
        by_cases e2 : i = 4 * k + j
        · rw [if_pos ⟨rfl, e2⟩, if_pos (by omega), show i - 4 * k = j by omega]
        · rw [if_neg (fun q => e2 q.2), if_neg (by omega)]
    · rw [if_neg e, if_neg e, wr_1, if_neg (fun q => e q.1)]
theorem tkS_r {s : TT} {a : Nat} (e1 : a ≠ 16 + 2 * k) (e2 : a ≠ 17 + 2 * k) : (tkS s k).1 a = s.1 a := by
  unfold tkS
  rw [wrow_row (by omega), wr_row e1]
theorem st_snow : ST_snow INV := by
  intro h hI x1 x2
  rcases place x1 4 (by decide) with ⟨k, hk, rfl⟩ | hb
  · rcases place x2 4 (by decide) with ⟨t, ht, rfl⟩ | hb
    · have cc : f_X7_snow h (nI k) (nI t) = (if 0 ≤ h.1 14 t then (f_X4_readSnow h (10 + t) 80 (h.1 14 t)).bind fun q9 => (if q9.1 = (-9 : Int32) then (f_X5_takeFrom q9.2 (16 + 2 * k) 128).bind fun h12 => some (h12.1 127 2, h12) else some ((-4 : Int32), q9.2)) else (f_X7_found h (1 : Int32)).bind fun q13 => some (q13.1, q13.2)) := by
        unfold f_X7_snow
        rw [f_below, Option.bind_some, if_pos (lt4 hk).1, if_neg n1_0, f_below, Option.bind_some, if_pos (lt4 ht).1, if_neg n1_0, nI_clamp (show t < 2 ^ 31 by omega), nI_clamp (show k < 2 ^ 31 by omega)]
        simp only [inb_nI ht (show 4 < 2 ^ 31 by decide), inb_nI hk (show 4 < 2 ^ 31 by decide), if_true]
      have mm : ∀ g : TT, f_X8_snow g (nI k) (nI t) = (if 0 ≤ g.1 152 t then (f_X8_snowFault g (nI t)).bind fun q7 => (if q7.1 = (-9 : Int32) then f_X8_snow_46 KF (nI k) (0 : Int32) q7.2 else some ((-4 : Int32), q7.2)) else (f_X8_meets g (1 : Int32)).bind fun q15 => some (q15.1, q15.2)) := fun g => by
        unfold f_X8_snow
        rw [f_isPlace, Option.bind_some, if_pos (lt4 hk).2, if_neg n1_0, f_isText, Option.bind_some, if_pos (lt4 ht).2, if_neg n1_0, nI_clamp (show t < 2 ^ 31 by omega)]
        simp only [inb_nI ht (show 4 < 2 ^ 31 by decide), if_true]
      rcases tcase hI.2.2.2.2.1 ht with ⟨b1, b2⟩ | ⟨n, hn, b1, b2⟩
      · refine ⟨-3, hFind h 1, hMeet (hFind h 1) 1, ?_, ?_, inv_find XX_fr.frx hI (by decide)⟩
        · rw [cc, b1, if_neg (by decide)]
          exact fm_find h (by decide) rfl
        · rw [mm, hFind_r (by omega) (by omega), b2, if_neg (by decide)]
          exact fm_meet _ (by decide) rfl
      · obtain ⟨r, s, p, c, v, W, V, es, hW, hV, e1, v', q, Q, e2⟩ := b_snow hI ht hn b1 (fun r s => if r = -9 then tkS s k else s) (fun r s => by
          by_cases z : r = -9
          · simp only [if_pos z]
            exact ⟨tkS_r (by omega) (by omega), tkS_r (by omega) (by omega)⟩
          · simp only [if_neg z]
            exact ⟨trivial, trivial⟩)
        have ns : NS h s := by rw [es]; exact ns_128.tr ns_cs
        have s128 : s.1 128 0 = 1 := by rw [es, cs_row (by decide) (by decide) (by decide), wr_1, if_pos ⟨rfl, rfl⟩]
        have s2 : s.1 127 2 = nI c := by rw [es]; rfl
        have sW : s.1 129 = W := by rw [es]; rfl
        have s152 : s.1 152 t = nI n := by rw [ns.1 152 t (fun z => by unfold Scr at z; omega), b2]
        by_cases r9 : r = -9
        · simp only [if_pos r9] at e2
          refine ⟨nI c, tkS s k, wr (wrow (MZ (tkS s k) p v' c q V Q) 155 (fun i => if 4 * k + 0 ≤ i ∧ i < 4 * k + 4 then V (i - 4 * k) else (MZ (tkS s k) p v' c q V Q).1 155 i)) 154 k 1, ?_, ?_, ?_⟩
          · rw [cc, b1, if_pos (nI_pos' (by omega)), e1, Option.bind_some, if_pos r9, c_tkS s128, Option.bind_some, tkS_r (by omega) (by omega), s2]
          · rw [mm, tkS_r (by omega) (by omega), s152, if_pos (nI_pos' (by omega)), e2, Option.bind_some, if_pos r9, show (0 : Int32) = nI 0 from rfl, m_sn46 (u := h) hk 4 KF 0 _ (by omega) (by decide)]
            rfl
          · generalize hu : MZ (tkS s k) p v' c q V Q = u
            have nu : ∀ i j, i ≠ 16 + 2 * k → i ≠ 17 + 2 * k → ¬ Scr i j → u.1 i j = h.1 i j := fun i j a b d => by rw [← hu, ns_mz.1 i j d, tkS_r a b, ns.1 i j d]
            refine inv_sn hI hk (fun i j a b d z => ?_) (by rw [wr_2, wrow_2, ← hu]; exact ns.2) ?_
            · rw [wr_1, if_neg b, wrow_1]
              by_cases z5 : i = 155
              · rw [if_pos z5, if_neg (by omega)]
                rw [← z5]
                exact nu i j (by omega) (by omega) z
              · rw [if_neg z5]
                exact nu i j (by omega) (by omega) z
            · have u16 : u.1 (16 + 2 * k) 0 = 1 := by
                rw [← hu, ms_row (by omega) (by omega) (by omega)]
                unfold tkS
                rw [wrow_row (by omega), wr_1, if_pos ⟨rfl, rfl⟩]
              have u17 : ∀ j, j < 4 → u.1 (17 + 2 * k) j = W j := fun j hj => by
                rw [← hu, ms_row (by omega) (by omega) (by omega)]
                unfold tkS
                rw [wrow_1, if_pos (by omega)]
                unfold va_cpy
                rw [if_pos (by omega), wr_row (by omega), show 128 + 1 = 129 from rfl, sW, show 0 + (j - 0) = j by omega]
              have f155 : ∀ j, j < 4 → (wr (wrow u 155 (fun i => if 4 * k + 0 ≤ i ∧ i < 4 * k + 4 then V (i - 4 * k) else u.1 155 i)) 154 k 1).1 155 (4 * k + j) = W j := fun j hj => by
                rw [wr_row (by omega), wrow_1, if_pos rfl, if_pos (by omega), show 4 * k + j - 4 * k = j by omega, hV j hj]
              have g155 : ∀ j, j < 4 → gn ((wr (wrow u 155 (fun i => if 4 * k + 0 ≤ i ∧ i < 4 * k + 4 then V (i - 4 * k) else u.1 155 i)) 154 k 1).1 155) (4 * k + j) = gn W j := fun j hj => by
                unfold gn
                rw [f155 j hj]
              refine ⟨?_, Or.inr ⟨?_, fun j hj => ⟨?_, ?_⟩, ?_, ?_, ?_, ?_⟩⟩
              · rw [wr_1 _ 154 k 1 154 k, if_pos ⟨rfl, rfl⟩, wr_row (by omega), wrow_row (by omega), u16]
              · rw [wr_1, if_pos ⟨rfl, rfl⟩]
              · rw [f155 j hj, wr_row (by omega), wrow_row (by omega), u17 j hj]
              · rw [g155 j hj, f155 j hj]
                exact (hW j hj).1
              · exact Nat.le_trans (Nat.le_of_eq (g155 0 (by omega))) (hW 0 (by omega)).2
              · rw [g155 1 (by omega)]; exact (hW 1 (by omega)).2
              · rw [g155 2 (by omega)]; exact (hW 2 (by omega)).2
              · rw [g155 3 (by omega)]; exact (hW 3 (by omega)).2
        · simp only [if_neg r9] at e2
          refine ⟨-4, s, MZ s p v' c q V Q, ?_, ?_, inv_ns hI (ns.tr ns_mz)⟩
          · rw [cc, b1, if_pos (nI_pos' (by omega)), e1, Option.bind_some, if_neg r9]
          · rw [mm, s152, if_pos (nI_pos' (by omega)), e2, Option.bind_some, if_neg r9]
    · refine ⟨-1, h, h, ?_, ?_, hI⟩
      · unfold f_X7_snow
        rw [f_below, Option.bind_some, if_pos (lt4 hk).1, if_neg n1_0, f_below, Option.bind_some, if_neg (not_lt4 hb).1, if_pos rfl]
      · unfold f_X8_snow
        rw [f_isPlace, Option.bind_some, if_pos (lt4 hk).2, if_neg n1_0, f_isText, Option.bind_some, if_neg (not_lt4 hb).2, if_pos rfl]
  · refine ⟨-1, h, h, ?_, ?_, hI⟩
    · unfold f_X7_snow
      rw [f_below, Option.bind_some, if_neg (not_lt4 hb).1, if_pos rfl]
    · unfold f_X8_snow
      rw [f_isPlace, Option.bind_some, if_neg (not_lt4 hb).2, if_pos rfl]
end RD
