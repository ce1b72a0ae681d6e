section INV
variable {h h' : TT} {o k b q : Nat} {B : Nat → Nat → Int32} {P : Nat → Int32} {L : Nat} {w c g : Nat → Int32}
theorem sn_cs (x : SNX h k) : (h.1 (16 + 2 * k) 0 = 0 ∧ h.1 154 k = 0) ∨ (h.1 (16 + 2 * k) 0 = 1 ∧ h.1 154 k = 1) := by
  obtain ⟨a, b⟩ := x
  rcases b with b | ⟨b, -⟩
  · exact Or.inl ⟨a.trans b, b⟩
  · exact Or.inr ⟨a.trans b, b⟩
theorem pl_cs (x : PLX h k) : (h.1 (25 + 4 * k) 0 = 0 ∧ h.1 156 k = 0) ∨ (h.1 (25 + 4 * k) 0 = 1 ∧ h.1 156 k = 1) := by
  obtain ⟨a, b⟩ := x
  rcases b with b | ⟨b, -⟩
  · exact Or.inl ⟨a.trans b, b⟩
  · exact Or.inr ⟨a.trans b, b⟩
theorem f_areB (h : TT) (x : Int32) : f_X7_areBuilders h x = some (if x = 1 ∨ x = 2 then 1 else 0) := by
  unfold f_X7_areBuilders f_X7_areBuilders_10
  by_cases e1 : x = 1
  · rw [if_pos e1, if_pos (Or.inl e1)]
  · rw [if_neg e1]
    by_cases e2 : x = 2
    · rw [if_pos e2, if_pos (Or.inr e2)]
    · rw [if_neg e2, if_neg (fun z => by rcases z with z | z <;> contradiction)]
theorem in12 (x : Int32) : (1 ≤ x ∧ x ≤ 2) ↔ (x = 1 ∨ x = 2) := by
  constructor
  · rintro ⟨a, b⟩
    have a := i32_le.mp a
    have b := i32_le.mp b
    have e1 : (1 : Int32).toInt = 1 := rfl
    have e2 : (2 : Int32).toInt = 2 := rfl
    rcases (show x.toInt = 1 ∨ x.toInt = 2 by omega) with z | z
    · left; rw [i32_eq]; omega
    · right; rw [i32_eq]; omega
  · rintro (rfl | rfl) <;> decide
theorem PP_cg {s x} (e1 : h'.1 155 = h.1 155) (e2 : h'.1 157 = h.1 157) : PP h' s k x = PP h s k x := by
  unfold PP
  rw [e1, e2]
theorem st_house : ST_house INV := by
  intro h hI x1 x2 x3
  have x := hI.2.2.2.2.2
  rcases place x1 4 (by decide) with ⟨s, hs, rfl⟩ | hb
  · rcases place x2 4 (by decide) with ⟨k, hk, rfl⟩ | hb2
    · by_cases hx3 : x3 = 1 ∨ x3 = 2
      · have fnd : (h.1 (16 + 2 * s) 0 = 0 ∧ h.1 154 s = 0) ∨ (h.1 (16 + 2 * s) 0 = 1 ∧ h.1 154 s = 1) ∧ (h.1 (25 + 4 * k) 0 = 0 ∧ h.1 156 k = 0) → ∃ (r : Int32) (h1 : TT) (h2 : TT), f_X7_house h (nI s) (nI k) x3 = some (r, h1) ∧ f_X8_house h1 (nI s) (nI k) x3 = some (r, h2) ∧ INV h2 := fun hq => by
          refine ⟨-3, hFind h 1, hMeet (hFind h 1) 1, ?_, ?_, inv_find XX_fr.frx hI (by decide)⟩
          · unfold f_X7_house f_X7_house_49
            rw [f_below, Option.bind_some, if_pos (lt4 hs).1, if_neg n1_0, f_below, Option.bind_some, if_pos (lt4 hk).1, if_neg n1_0, f_areB, Option.bind_some, if_pos hx3, if_neg n1_0, if_pos (inb_nI hs (by decide)), nI_clamp (by omega)]
            rcases hq with ⟨q1, -⟩ | ⟨⟨q1, -⟩, q2, -⟩
            · rw [if_pos q1]
              exact fm_find h (by decide) rfl
            · rw [if_neg (by rw [q1]; decide), if_pos (inb_nI hk (by decide)), nI_clamp (by omega), if_pos q2]
              exact fm_find h (by decide) rfl
          · unfold f_X8_house f_X8_house_43
            rw [f_isPlace, Option.bind_some, if_pos (lt4 hs).2, if_neg n1_0, f_isPlace, Option.bind_some, if_pos (lt4 hk).2, if_neg n1_0, f_in, Option.bind_some, if_pos ((in12 x3).mpr hx3), if_neg n1_0, if_pos (inb_nI hs (by decide)), nI_clamp (by omega), hFind_r (by omega) (by omega)]
            rcases hq with ⟨-, q1⟩ | ⟨⟨-, q1⟩, -, q2⟩
            · rw [if_pos q1]
              exact fm_meet _ (by decide) rfl
            · rw [if_neg (by rw [q1]; decide), if_pos (inb_nI hk (by decide)), nI_clamp (by omega), hFind_r (by omega) (by omega), if_pos q2]
              exact fm_meet _ (by decide) rfl
        rcases sn_cs (x.1 s hs) with q | ⟨q1, q2⟩
        · exact fnd (Or.inl q)
        · rcases pl_cs (x.2.1 k hk) with q | ⟨q3, q4⟩
          · exact fnd (Or.inr ⟨⟨q1, q2⟩, q⟩)
          · obtain ⟨W1, W2, W3, W4⟩ := PP_W (x.1 s hs) q2 (x.2.1 k hk) q4 hx3
            obtain ⟨B', g1, R', D'⟩ := c_beginX (o := 41) (x.1 s hs) q2 (x.2.1 k hk) q4 hx3 hs hk (by omega) (B := RowsAt h 41)
            rw [setB_id] at g1
            have pe : PP (lk0 (setB h 41 B')) s k x3 = PP h s k x3 := PP_cg (by rw [lk0_r (by omega), sb_o (by omega)]) (by rw [lk0_r (by omega), sb_o (by omega)])
            have mb : (f_X8_layHouse (lk0 (setB h 41 B')) (nI s) (nI k) x3).bind (fun h13 => (f_X8_begins h13).bind fun h14 => some h14) = some (MSt (lk0 (setB h 41 B')) 0 (PP h s k x3) 0 w0 c0) := by
              have l := m_layG (h := lk0 (setB h 41 B')) (b := 0) (g := fun j => (lk0 (setB h 41 B')).1 161 (0 + j)) lk0_ok hs hk x3
              rw [setG_id] at l
              rw [l, Option.bind_some, m_beginsG lk0_ok, Option.bind_some, pe]
              congr 1
              exact MSt_cg (fun j hj => if_pos ⟨by omega, hj⟩) (fun _ _ => rfl) (fun _ _ => rfl)
            obtain ⟨hl, l1, l2⟩ : ∃ hl, f_X8_layHouse (lk0 (setB h 41 B')) (nI s) (nI k) x3 = some hl ∧ f_X8_begins hl = some (MSt (lk0 (setB h 41 B')) 0 (PP h s k x3) 0 w0 c0) := by
              have l := m_layG (h := lk0 (setB h 41 B')) (b := 0) (g := fun j => (lk0 (setB h 41 B')).1 161 (0 + j)) lk0_ok hs hk x3
              rw [setG_id] at l
              refine ⟨_, l, ?_⟩
              rw [m_beginsG lk0_ok, pe]
              congr 1
              exact MSt_cg (fun j hj => if_pos ⟨by omega, hj⟩) (fun _ _ => rfl) (fun _ _ => rfl)
            generalize hG : wr (MSt (lk0 (setB h 41 B')) 0 (PP h s k x3) 0 w0 c0) 160 0 1 = G
            have gr : ∀ i, i ≠ 161 → i ≠ 160 → i ≠ 147 → G.1 i = (setB h 41 B').1 i := fun i h1 h2 h3 => by rw [← hG, wr_row h2]; unfold MSt; rw [setG_o h1, lk0_r h3]
            have g161 : ∀ j, j < 152 → G.1 161 j = mkG (PP h s k x3) 0 w0 c0 j := fun j hj => by
              rw [← hG, wr_row (by omega)]
              have := setG_r (h := lk0 (setB h 41 B')) (b := 0) (g := mkG (PP h s k x3) 0 w0 c0) hj
              rw [Nat.zero_add] at this
              exact this
            have g161' : ∀ j, 152 ≤ j → G.1 161 j = h.1 161 j := fun j hj => by
              rw [← hG, wr_row (by omega)]
              show (wrow (lk0 (setB h 41 B')) 161 _).1 161 j = _
              rw [wrow_1, if_pos rfl, if_neg (by omega), lk0_r (by omega), sb_o (by omega)]
            have g147 : ∀ j, j ≠ 22 → G.1 147 j = h.1 147 j := fun j hj => by
              rw [← hG, wr_row (by omega)]
              unfold MSt
              rw [setG_o (by omega)]
              unfold lk0
              rw [wr_1, if_neg (fun z => hj z.2), sb_o (by omega)]
            have g160 : ∀ j, G.1 160 j = if j = 0 then 1 else h.1 160 j := fun j => by
              rw [← hG, wr_1]
              unfold MSt
              rw [setG_o (by omega), lk0_r (by omega), sb_o (by omega)]
              by_cases z : j = 0
              · rw [if_pos ⟨rfl, z⟩, if_pos z]
              · rw [if_neg (fun q => z q.2), if_neg z]
            have gok : MOK G 0 := ⟨by rw [← hG, wr_row (by omega)]; unfold MSt; rw [setG_o (by omega)]; exact lk0_ok.1, by omega⟩
            have gm : MSt G 0 (PP h s k x3) 0 w0 c0 = G := MSt_id (fun j hj => by rw [Nat.zero_add]; exact g161 j hj)
            have ga := m_all (h := G) (b := 0) (L := 0) (w := w0) (c := c0) gok W1
            rw [gm] at ga
            have rb : ∀ j, j < 17 → G.1 (41 + j) = B' j := fun j hj => by rw [gr _ (by omega) (by omega) (by omega), sb_r hj]
            refine ⟨nI (aF (PP h s k x3)), setB h 41 B', G, ?_, ?_, ?_⟩
            · unfold f_X7_house
              rw [f_below, Option.bind_some, if_pos (lt4 hs).1, if_neg n1_0, f_below, Option.bind_some, if_pos (lt4 hk).1, if_neg n1_0, f_areB, Option.bind_some, if_pos hx3, if_neg n1_0, if_pos (inb_nI hs (by decide)), nI_clamp (by omega), if_neg (by rw [q1]; decide), if_pos (inb_nI hk (by decide)), nI_clamp (by omega), if_neg (by rw [q3]; decide), if_pos (inb_nI hs (by decide)), if_pos (inb_nI hk (by decide)), g1, Option.bind_some, sb_3, R'.2.2.2.2.2.2.1]
            · unfold f_X8_house
              rw [f_isPlace, Option.bind_some, if_pos (lt4 hs).2, if_neg n1_0, f_isPlace, Option.bind_some, if_pos (lt4 hk).2, if_neg n1_0, f_in, Option.bind_some, if_pos ((in12 x3).mpr hx3), if_neg n1_0, if_pos (inb_nI hs (by decide)), nI_clamp (by omega), sb_o (by omega), if_neg (by rw [q2]; decide), if_pos (inb_nI hk (by decide)), nI_clamp (by omega), sb_o (by omega), if_neg (by rw [q4]; decide), m_look0, Option.bind_some, l1, Option.bind_some, l2, Option.bind_some, if_pos ib04', tn0, v1, nm_eq, hG, ga]
              rfl
            · have A0 : AW (PP h s k x3) 0 w0 c0 := ⟨Nat.zero_le _, fun i _ => ⟨rfl, c0_1 i⟩, fun i hi => absurd hi (c0_1 i)⟩
              refine inv_slot (o := 41) (q := 0) (P := PP h s k x3) (L := 0) (w := w0) (c := c0) hI (Or.inl ⟨rfl, rfl⟩) (fun i m n1 n2 n3 n4 => ?_) (by rw [← hG]; rfl) ?_ ?_ ⟨W1, R'.ag W1 (AGR.of rb), D'.ag W1 (AGR.of rb), A0, fun i hi => absurd hi (by omega), fun j hj => ?_⟩
              · by_cases z1 : i = 161
                · subst z1
                  rw [g161' m (by omega)]
                · by_cases z2 : i = 147
                  · subst z2
                    rw [g147 m (fun z => n4 (by unfold Scr; omega))]
                  · by_cases z3 : i = 160
                    · subst z3
                      rw [g160, if_neg (by omega)]
                    · rw [gr i z1 z3 z2, sb_o (by omega)]
              · have := rb 0 (by omega)
                rw [show 41 + 0 = 41 from rfl] at this
                rw [this]; exact R'.1
              · rw [g160, if_pos rfl]
              · rw [show 152 * 0 + j = j by omega]
                exact g161 j hj
      · refine ⟨-1, h, h, ?_, ?_, hI⟩
        · unfold f_X7_house
          rw [f_below, Option.bind_some, if_pos (lt4 hs).1, if_neg n1_0, f_below, Option.bind_some, if_pos (lt4 hk).1, if_neg n1_0, f_areB, Option.bind_some, if_neg hx3]; rfl
        · unfold f_X8_house
          rw [f_isPlace, Option.bind_some, if_pos (lt4 hs).2, if_neg n1_0, f_isPlace, Option.bind_some, if_pos (lt4 hk).2, if_neg n1_0, f_in, Option.bind_some, if_neg (fun z => hx3 ((in12 x3).mp z))]; rfl
    · refine ⟨-1, h, h, ?_, ?_, hI⟩
      · unfold f_X7_house
        rw [f_below, Option.bind_some, if_pos (lt4 hs).1, if_neg n1_0, f_below, Option.bind_some, if_neg (not_lt4 hb2).1]; rfl
      · unfold f_X8_house
        rw [f_isPlace, Option.bind_some, if_pos (lt4 hs).2, if_neg n1_0, f_isPlace, Option.bind_some, if_neg (not_lt4 hb2).2]; rfl
  · refine ⟨-1, h, h, ?_, ?_, hI⟩
    · unfold f_X7_house
      rw [f_below, Option.bind_some, if_neg (not_lt4 hb).1]; rfl
    · unfold f_X8_house
      rw [f_isPlace, Option.bind_some, if_neg (not_lt4 hb).2]; rfl
/-! plans -/
theorem pl_there (x : PLX h k) (t : h.1 156 k = 1) : WQ (QF h k) ∧ h.1 (25 + 4 * k) 1 = QF h k 0 ∧ h.1 (25 + 4 * k) 2 = nI (st (qz (QF h k)) (gn (QF h k) 0)) ∧ h.1 (25 + 4 * k) 3 = QF h k 1 ∧ ∀ y, y < gn (QF h k) 0 → h.1 (26 + 4 * k) y = QF h k (2 + 3 * y) ∧ h.1 (27 + 4 * k) y = QF h k (3 + 3 * y) ∧ h.1 (28 + 4 * k) y = QF h k (4 + 3 * y) := by
  obtain ⟨-, b⟩ := x
  rcases b with b | ⟨-, b⟩
  · rw [t] at b; exact absurd b (by decide)
  · exact b
theorem m_pB4 (hQ : WQ (QF h k)) (hk : k < 4) : ∀ (d f y : Nat), y + d = gn (QF h k) 0 → d < f → f_X8_planBlocks_4 h f (nI k) (nI (st (qz (QF h k)) y)) (nI y) = some (nI (st (qz (QF h k)) (gn (QF h k) 0))) := by
  have h8 := hQ.1.2.1
  intro d
  induction d with
  | zero =>
    intro f y hy hf
    obtain ⟨f, rfl⟩ : ∃ g, f = g + 1 := ⟨f - 1, by omega⟩
    have e0 : h.1 157 (26 * k) = nI (gn (QF h k) 0) := hQ.2.1
    rw [f_X8_planBlocks_4, k26, if_pos (inb_nI (by omega) (by decide)), nI_clamp (by omega), e0, if_pos (nI_le (by omega) (by omega)), show y = gn (QF h k) 0 by omega]
  | succ d ih =>
    intro f y hy hf
    obtain ⟨f, rfl⟩ : ∃ g, f = g + 1 := ⟨f - 1, by omega⟩
    have e0 : h.1 157 (26 * k) = nI (gn (QF h k) 0) := hQ.2.1
    have e1 : h.1 157 (26 * k + 3 + 3 * y) = nI (qz (QF h k) y) := by
      rw [show 26 * k + 3 + 3 * y = 26 * k + (3 + 3 * y) by omega]
      exact (hQ.2.2.2.2 y (by omega)).1
    rw [f_X8_planBlocks_4, k26, if_pos (inb_nI (by omega) (by decide)), nI_clamp (by omega), e0, if_neg (nI_ge (by omega) (by omega)), show nI (26 * k) + 3 = nI (26 * k + 3) from nI_add _ 3, show (3 : Int32) * nI y = nI (3 * y) by rw [show (3 : Int32) = nI 3 from rfl, pk_mul], nI_add, if_pos (inb_nI (by omega) (by decide)), nI_clamp (by omega), e1, nI_add, nm_eq, nI_1]
    exact ih f (y + 1) (by omega) (by omega)
theorem m_pB (hQ : WQ (QF h k)) (hk : k < 4) : f_X8_planBlocks h (nI k) = some (nI (st (qz (QF h k)) (gn (QF h k) 0))) :=
  m_pB4 hQ hk (gn (QF h k) 0) KF 0 (by omega) (by have := KF_ge; have := hQ.1.2.1; omega)
theorem m_pP (hk : k < 4) : f_X8_planPlaces h (nI k) = some (QF h k 3 / 2) := by
  unfold f_X8_planPlaces
  rw [k26, show nI (26 * k) + 3 = nI (26 * k + 3) from nI_add _ 3, if_pos (inb_nI (by omega) (by decide)), nI_clamp (by omega)]
  rfl
theorem c_sl (x : PLX h k) (t : h.1 156 k = 1) : f_X3_sleepers h (25 + 4 * k) = some (QF h k 3 / 2) := by
  obtain ⟨hQ, -, -, -, q⟩ := pl_there x t
  have h1 := hQ.1.1
  unfold f_X3_sleepers
  rw [if_pos (show inb 0 8 = true by decide), tn0, show 25 + 4 * k + 2 = 27 + 4 * k by omega, (q 0 (by omega)).2.1]
theorem c_pfact (x : PLX h k) (t : h.1 156 k = 1) (hk : k < 4) (v : Int32) (hv : 0 ≤ v ∧ v ≤ 3) : ∃ r, f_X3_fact h (25 + 4 * k) v = some r ∧ f_X8_planTells h (nI k) v = some r := by
  obtain ⟨hQ, q1, q2, q3, q⟩ := pl_there x t
  have h1 := hQ.1.1
  unfold f_X3_fact f_X8_planTells
  rw [c_sl x t, m_pB hQ hk, m_pP hk, q1, q2, q3, k26]
  have iv : ∀ j, j < 26 → inb (nI (26 * k) + nI j) 104 = true := fun j hj => by rw [nI_add]; exact inb_nI (by omega) (by decide)
  have cl : ∀ j, j < 26 → (nI (26 * k) + nI j).toNatClampNeg = 26 * k + j := fun j hj => by rw [nI_add, nI_clamp (by omega)]
  obtain ⟨n, hn, rfl⟩ := nI_of2 (M := 3) (n := 3) rfl (le_nlt hv.1) hv.2
  rcases (show n = 0 ∨ n = 1 ∨ n = 2 ∨ n = 3 by omega) with rfl | rfl | rfl | rfl
  · refine ⟨_, rfl, ?_⟩
    rw [if_neg (by decide), if_pos (iv 0 (by omega)), cl 0 (by omega)]
    rfl
  · refine ⟨_, rfl, ?_⟩
    rw [if_neg (by decide), if_pos (iv 1 (by omega)), cl 1 (by omega)]
    rfl
  · exact ⟨_, rfl, rfl⟩
  · exact ⟨_, rfl, rfl⟩
end INV
