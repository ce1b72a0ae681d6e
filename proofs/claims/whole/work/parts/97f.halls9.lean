/-! ===== halls: the reference, all together ===== -/
section HALLS
variable {h h' g s : TT} {k : Nat} {B : Nat → Nat → Int32}
theorem m_h51 (x : XX h) (r5 : g.1 155 = h.1 155) (r6 : g.1 156 = h.1 156) (r7 : g.1 157 = h.1 157) {sn : Nat} {x2 x3 : Int32} (hsn : sn < 4) (hs1 : h.1 154 sn = 1) : ∀ (d f k : Nat) (s : TT), k + d = 4 → d < f → Sc0 g s → (∀ i, i < k → s.1 163 i = if eH h sn i = 0 then (0 : Int32) else 1) → ∃ s', Sc0 g s' ∧ (∀ i, i < 4 → s'.1 163 i = if eH h sn i = 0 then (0 : Int32) else 1) ∧ f_X8_halls_51 f (nI sn) x2 x3 (nI k) s = f_X8_halls_108 KF x2 x3 0 s' := by
  intro d
  induction d with
  | zero =>
    intro f k s hk hf hs ht
    obtain ⟨f, rfl⟩ : ∃ g, f = g + 1 := ⟨f - 1, by omega⟩
    obtain rfl : k = 4 := by omega
    refine ⟨s, hs, ht, ?_⟩
    rw [f_X8_halls_51, if_pos (show (4 : Int32) ≤ nI 4 by decide)]
  | succ d ih =>
    intro f k s hk hf hs ht
    obtain ⟨f, rfl⟩ : ∃ g, f = g + 1 := ⟨f - 1, by omega⟩
    have hk4 : k < 4 := by omega
    have s5 : s.1 155 = h.1 155 := (hs.row (fun j q => by unfold Scr at q; omega)).trans r5
    have s6 : s.1 156 = h.1 156 := (hs.row (fun j q => by unfold Scr at q; omega)).trans r6
    have s7 : s.1 157 = h.1 157 := (hs.row (fun j q => by unfold Scr at q; omega)).trans r7
    have go : ∀ (v : Int32) (s1 : TT), Sc0 g s1 → s1.1 163 = s.1 163 → vp_nar .boolean v = (if eH h sn k = 0 then (0 : Int32) else 1) → ∃ s', Sc0 g s' ∧ (∀ i, i < 4 → s'.1 163 i = if eH h sn i = 0 then (0 : Int32) else 1) ∧ f_X8_halls_98 (f_X8_halls_51 f) (nI sn) x2 x3 (nI k) v (nI k) s1 = f_X8_halls_108 KF x2 x3 0 s' := fun v s1 h1 h2 hv => by
      obtain ⟨s', a1, a2, a3⟩ := ih f (k + 1) (wr s1 163 k (vp_nar .boolean v)) (by omega) (by omega) (h1.w (by unfold Scr; omega)) (fun i hi => by
        rw [wr_1]
        by_cases z : i = k
        · rw [if_pos ⟨rfl, z⟩, z, hv]
        · rw [if_neg (fun q => z q.2), h2]
          exact ht i (by omega))
      refine ⟨s', a1, a2, ?_⟩
      unfold f_X8_halls_98
      rw [if_pos (inb_nI hk4 (by decide)), nI_clamp (by omega), nm_eq, nI_1, a3]
    have go0 : ∀ (s1 : TT), Sc0 g s1 → s1.1 163 = s.1 163 → eH h sn k = 0 → ∃ s', Sc0 g s' ∧ (∀ i, i < 4 → s'.1 163 i = if eH h sn i = 0 then (0 : Int32) else 1) ∧ f_X8_halls_97 (f_X8_halls_51 f) (nI sn) x2 x3 (nI k) (nI k) s1 = f_X8_halls_108 KF x2 x3 0 s' := fun s1 h1 h2 he => by
      unfold f_X8_halls_97
      exact go 0 s1 h1 h2 ((show vp_nar .boolean 0 = (0 : Int32) from rfl).trans (if_pos he).symm)
    rw [f_X8_halls_51, if_neg (show ¬ (4 : Int32) ≤ nI k from nI_ge (b := 4) (by omega) (by omega)), if_pos (inb_nI hk4 (by decide)), nI_clamp (by omega), s6]
    rcases pl_cs (x.2.1 k hk4) with ⟨p1, p2⟩ | ⟨p1, p2⟩
    · rw [if_pos p2]
      exact go0 s hs rfl (if_neg (fun z => by have := z.1; rw [p2] at this; cases this))
    · have qf : QF s k = QF h k := by unfold QF; rw [s7]
      obtain ⟨q1, q2⟩ := eH_pl (x.2.1 k hk4) p2
      rw [if_neg (by rw [p2]; decide), m_pP hk4, Option.bind_some, qf, q1]
      by_cases u1 : gn (QF h k) 3 / 2 = 0
      · rw [if_pos (show nI (gn (QF h k) 3 / 2) ≤ 0 by rw [u1]; decide)]
        refine go0 s hs rfl ?_
        unfold eH
        rw [u1, ite_self]
      · obtain ⟨W1, -⟩ := PP_W (x.1 sn hsn) hs1 (x.2.1 k hk4) p2 (x := 1) (Or.inl rfl)
        have pe : PP s sn k 1 = PP h sn k 1 := PP_cg s5 s7
        obtain ⟨s1, k1, k2⟩ := m_stands (g := s) (s := s) (Or.inl rfl) hsn hk4 (x := 1) (by rw [pe]; exact W1)
        rw [pe] at k1
        rw [if_neg (show ¬ nI (gn (QF h k) 3 / 2) ≤ 0 from nI_nle (by omega) (by omega)), k1, Option.bind_some]
        have h1 := hs.St k2
        have h2 : s1.1 163 = s.1 163 := St_r k2 (by omega) (by omega)
        cases e4 : stT (PP h sn k 1) with
        | false =>
          rw [if_pos bIf]
          exact go0 s1 h1 h2 (if_neg (fun z => by have := z.2; rw [e4] at this; cases this))
        | true =>
          rw [if_neg (bI_t rfl)]
          refine go 1 s1 h1 h2 (v1.trans ?_)
          rw [show eH h sn k = gn (QF h k) 3 / 2 from if_pos ⟨p2, e4⟩, if_neg u1]
theorem m_hall (x : XX h) (r5 : g.1 155 = h.1 155) (r6 : g.1 156 = h.1 156) (r7 : g.1 157 = h.1 157) {sn r G : Nat} (hsn : sn < 4) (hs1 : h.1 154 sn = 1) (hG : G ≤ 40) (hr : r < 6) : ∃ s', Sc0 g s' ∧ (∀ j y, j ≤ 4 → y ≤ G → s'.1 162 (41 * j + y) = nI (fwT (eH h sn) (bH h) (4 - j) y)) ∧ (∀ j, j < 4 → eH h sn j ≠ 0 → ∀ t : TT, t.1 157 = s'.1 157 → f_X8_planBlocks t (nI j) = some (nI (bH h j)) ∧ f_X8_planPlaces t (nI j) = some (nI (eH h sn j))) ∧ f_X8_halls_51 KF (nI sn) (nI G) (nI r) 0 g = (if fwT (eH h sn) (bH h) 4 G < 1000000 then f_X8_halls_292 KF (nI G) (nI r) (nI (fwT (eH h sn) (bH h) 4 G)) (nI 0) (wr s' 149 r 4) else some (-9, s')) := by
  obtain ⟨s1, a1, a2, a3⟩ := m_h51 (x2 := nI G) (x3 := nI r) x r5 r6 r7 hsn hs1 4 KF 0 g (by omega) (by decide) (Sc0.rf g) (fun i hi => by omega)
  have b1 := m_108 (x3 := nI r) hG (G + 1) KF 0 s1 (by omega) (by have := KF_ge; omega)
  have pl : ∀ j, j < 4 → eH h sn j ≠ 0 → ∀ t : TT, t.1 157 = h.1 157 → f_X8_planBlocks t (nI j) = some (nI (bH h j)) ∧ f_X8_planPlaces t (nI j) = some (nI (eH h sn j)) := fun j hj he t ht => by
    have qf : QF t j = QF h j := by unfold QF; rw [ht]
    by_cases z : h.1 156 j = 1 ∧ stT (PP h sn j 1) = true
    · have hQ := (pl_there (x.2.1 j hj) z.1).1
      have pb := m_pB (h := t) (k := j) (by rw [qf]; exact hQ) hj
      have pp := m_pP (h := t) (k := j) hj
      rw [qf] at pb pp
      rw [(eH_pl (x.2.1 j hj) z.1).1] at pp
      refine ⟨?_, ?_⟩
      · rw [pb, show bH h j = qB h j from if_pos z.1]
        rfl
      · rw [pp, show eH h sn j = gn (QF h j) 3 / 2 from if_pos z]
    · exact absurd (show eH h sn j = 0 from if_neg z) he
  have hg : HG (eH h sn) (bH h) (wrow s1 162 (fun j => if 164 + 0 ≤ j ∧ j ≤ 164 + G then nI (up4 (j - 164)) else s1.1 162 j)) := fun k hk => by
    rw [wrow_row (show 163 ≠ 162 by omega), wrow_row (show 157 ≠ 162 by omega), a2 k hk]
    by_cases z : eH h sn k = 0
    · rw [if_pos z]
      exact Or.inl ⟨rfl, z⟩
    · rw [if_neg z]
      exact Or.inr ⟨rfl, z, fun t ht => pl k hk z t (ht.trans ((a1.row (fun j q => by unfold Scr at q; omega)).trans r7))⟩
  obtain ⟨s', c1, c2, c3, c4⟩ := m_146 (x3 := nI r) hG (eH_le x.2.1) (bH_le x.2.1) 4 (995 + 1) _ (by omega) hg (fun i y h1 h2 h3 => by
    obtain rfl : i = 4 := by omega
    rw [wrow_1, if_pos rfl, if_pos (by omega), show 41 * 4 + y - 164 = y by omega]
    rfl)
  have s157 : s'.1 157 = h.1 157 := (c1 157 (by omega)).trans ((wrow_row (by omega)).trans ((a1.row (fun j q => by unfold Scr at q; omega)).trans r7))
  have sc : Sc0 g s' := ⟨fun i j q => by
    by_cases z : i = 162
    · exact absurd (show Scr i j by unfold Scr; omega) q
    · rw [c1 i z, wrow_row z]
      exact a1.1 i j q, c2.trans a1.2⟩
  refine ⟨s', sc, c3, fun j hj he t ht => pl j hj he t (ht.trans s157), ?_⟩
  have t0 := c3 0 G (by omega) (by omega)
  rw [show 41 * 0 + G = G by omega, show 4 - 0 = 4 from rfl] at t0
  have tl := fwT_le (e := eH h sn) (b := bH h) 4 G
  rw [show nI 0 = (0 : Int32) from rfl] at a3 b1
  rw [a3, b1]
  rw [show (nI 4 + -1 : Int32) = 3 by decide, show 995 + 1 + 4 = KF from rfl] at c4
  rw [c4, f_X8_halls_146, if_pos (show (-1 : Int32) < 0 by decide), if_pos (inb_nI (by omega) (by decide)), nm_eq, nI_clamp (by omega), t0]
  by_cases z : fwT (eH h sn) (bH h) 4 G < 1000000
  · rw [if_pos (show nI (fwT (eH h sn) (bH h) 4 G) < 1000000 from nI_lt (b := 1000000) z (by decide)), if_pos z, if_pos (inb_nI hr (by decide)), nm_eq, nI_clamp (by omega)]
    rfl
  · rw [if_neg (show ¬ nI (fwT (eH h sn) (bH h) 4 G) < 1000000 from nI_nlt (b := 1000000) (by omega) (by omega)), if_neg z]
end HALLS
