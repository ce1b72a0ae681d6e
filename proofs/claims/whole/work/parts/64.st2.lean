def PP (h : TT) (s k : Nat) (x : Int32) : Nat → Int32 := fun j => if j < 4 then h.1 155 (4 * s + j) else if j = 4 then h.1 157 (26 * k + 1) else if j = 5 then x else if j = 6 then h.1 157 (26 * k) else h.1 157 (26 * k + 2 + (j - 7))
section INV
variable {h h' : TT} {o k b q : Nat} {B : Nat → Nat → Int32} {P : Nat → Int32} {L : Nat} {w c : Nat → Int32}
theorem k152 (a i : Nat) : (152 : Int32) * nI a + nI i = nI (152 * a + i) := by
  rw [show (152 : Int32) = nI 152 from rfl, pk_mul, nI_add]
theorem m_copy2 {a d : Nat} (ha : a ≤ 4) (hd : d ≤ 4) (hn : a ≠ d) : ∀ (n f i : Nat) (h : TT), i + n = 152 → n < f → f_X8_copyHouse_2 f (nI a) (nI d) (nI i) h = some (wrow h 161 (fun j => if 152 * d + i ≤ j ∧ j < 152 * d + 152 then h.1 161 (152 * a + (j - 152 * d)) else h.1 161 j)) := by
  intro n
  induction n with
  | zero =>
    intro f i h hi hf
    obtain ⟨f, rfl⟩ : ∃ g, f = g + 1 := ⟨f - 1, by omega⟩
    rw [f_X8_copyHouse_2, if_pos (show (152 : Int32) ≤ nI i from nI_le (a := 152) (by omega) (by omega))]
    congr 1
    refine Prod.ext (funext fun x => funext fun j => ?_) rfl
    rw [wrow_1]
    by_cases e : x = 161
    · rw [if_pos e, if_neg (by omega), e]
    · rw [if_neg e]
  | succ n ih =>
    intro f i h hi hf
    obtain ⟨f, rfl⟩ : ∃ g, f = g + 1 := ⟨f - 1, by omega⟩
    rw [f_X8_copyHouse_2, if_neg (show ¬ (152 : Int32) ≤ nI i from nI_ge (b := 152) (by omega) (by omega)), k152, k152, if_pos (inb_nI (by omega) (by decide)), if_pos (inb_nI (by omega) (by decide)), nI_clamp (by omega), nI_clamp (by omega), nm_eq, nI_1, ih f (i + 1) _ (by omega) (by omega)]
    congr 1
    refine Prod.ext (funext fun x => funext fun j => ?_) rfl
    rw [wrow_1, wrow_1]
    by_cases e : x = 161
    · rw [if_pos e, if_pos e]
      by_cases e1 : 152 * d + (i + 1) ≤ j ∧ j < 152 * d + 152
      · rw [if_pos e1, if_pos (by omega), wr_1, if_neg (by omega)]
      · rw [if_neg e1, wr_1]
        by_cases e2 : j = 152 * d + i
        · rw [if_pos ⟨rfl, e2⟩, if_pos (by omega), show 152 * a + (j - 152 * d) = 152 * a + i by omega]
        · rw [if_neg (fun z => e2 z.2), if_neg (by omega)]
    · rw [if_neg e, if_neg e, wr_1, if_neg (fun z => e z.1)]
theorem m_copy {a d : Nat} (ha : a ≤ 4) (hd : d ≤ 4) (hn : a ≠ d) (h : TT) : f_X8_copyHouse h (nI a) (nI d) = some (setG h (152 * d) (fun j => h.1 161 (152 * a + j))) := by
  unfold f_X8_copyHouse
  rw [show (0 : Int32) = nI 0 from rfl, m_copy2 ha hd hn 152 KF 0 h (by omega) (by decide)]
  rfl
theorem v1 : vp_nar .boolean 1 = 1 := rfl
theorem st_keep : ST_keep INV := by
  intro h hI x1
  have x := hI.2.2.2.2.2
  by_cases e : 0 ≤ x1 ∧ x1 < 3
  · have e' : 0 ≤ x1 ∧ x1 ≤ 2 := (le_pred (n := 3) (Or.inl (by decide))).mpr e
    obtain ⟨k, hk, rfl⟩ := nI_of2 (M := 2) (n := 2) rfl (le_nlt e.1) e'.2
    rcases home x with ⟨a1, a2, -⟩ | ⟨a1, a2, P, L, w, c, H⟩
    · refine ⟨-4, h, h, ?_, ?_, hI⟩
      · unfold f_X7_keep
        rw [f_below, Option.bind_some, if_pos e, if_neg n1_0, if_pos a1]
      · unfold f_X8_keep
        rw [f_in, Option.bind_some, if_pos e', if_neg n1_0, if_pos ib04', tn0, if_pos a2]
    · have d4 : h.1 41 4 = nI L := H.2.2.1.1
      have z0 : h.1 41 0 = 1 := H.2.1.1
      have z1 : h.1 (41 + 1) 0 = 1 := H.2.1.2.1
      have z3 : h.1 (41 + 3) 0 = 1 := H.2.1.2.2.1
      obtain ⟨B', g1, g2⟩ := c_takeB (h := h) (o := 59 + 17 * k) (B := RowsAt h (59 + 17 * k)) (o1 := 41) (by rw [z0]; decide) (by rw [z1]; decide) (by rw [z3]; decide) (fun j hj => by omega)
      rw [setB_id] at g1
      have g2 : AGR B' (RowsAt h 41) := g2
      have R' := H.2.1.ag H.1 g2
      have D' := H.2.2.1.ag H.1 g2
      have c2 : f_X8_keep (setB h (59 + 17 * k) B') (nI k) = some (nI L, lk0 (wr (setG (setB h (59 + 17 * k) B') (152 * (1 + k)) (fun j => (setB h (59 + 17 * k) B').1 161 (152 * 0 + j))) 160 (1 + k) 1)) := by
        unfold f_X8_keep
        rw [f_in, Option.bind_some, if_pos e', if_neg n1_0, if_pos ib04', tn0, sb_o (by omega), if_neg (by rw [a2]; decide), show (1 : Int32) + nI k = nI (1 + k) from nI_add 1 k, show (0 : Int32) = nI 0 from rfl, m_copy (by omega) (by omega) (by omega), Option.bind_some, if_pos (inb_nI (by omega) (by decide)), nI_clamp (by omega), v1, nm_eq, show f_X8_look _ (nI 0) = some (lk0 _) from rfl, Option.bind_some]
        have ms : lk0 (wr (setG (setB h (59 + 17 * k) B') (152 * (1 + k)) (fun j => (setB h (59 + 17 * k) B').1 161 (152 * 0 + j))) 160 (1 + k) 1) = MSt (lk0 (wr (setG (setB h (59 + 17 * k) B') (152 * (1 + k)) (fun j => (setB h (59 + 17 * k) B').1 161 (152 * 0 + j))) 160 (1 + k) 1)) 0 P L w c := by
          refine (MSt_id (fun j hj => ?_)).symm
          rw [lk0_r (by omega), wr_row (by omega), ← H.2.2.2.2.2 j hj]
          show (wrow (setB h (59 + 17 * k) B') 161 _).1 161 (0 + j) = _
          rw [wrow_1, if_pos rfl, if_neg (by omega), sb_o (by omega)]
        have q1 := v_L (h := lk0 (wr (setG (setB h (59 + 17 * k) B') (152 * (1 + k)) (fun j => (setB h (59 + 17 * k) B').1 161 (152 * 0 + j))) 160 (1 + k) 1)) (b := 0) (P := P) (L := L) (w := w) (c := c) lk0_ok
        rw [← ms] at q1
        rw [q1]
        rfl
      refine ⟨nI L, setB h (59 + 17 * k) B', _, ?_, c2, ?_⟩
      · unfold f_X7_keep
        rw [f_below, Option.bind_some, if_pos e, if_neg n1_0, if_neg (by rw [a1]; decide), if_pos (inb_nI (by omega) (by decide)), nI_clamp (by omega), g1, Option.bind_some, sb_o (by omega), d4]
      · have r : ∀ i, i ≠ 161 → i ≠ 147 → i ≠ 160 → (lk0 (wr (setG (setB h (59 + 17 * k) B') (152 * (1 + k)) (fun j => (setB h (59 + 17 * k) B').1 161 (152 * 0 + j))) 160 (1 + k) 1)).1 i = (setB h (59 + 17 * k) B').1 i := fun i h1 h2 h3 => by rw [lk0_r h2, wr_row h3, setG_o h1]
        have rb : ∀ j, j < 17 → (lk0 (wr (setG (setB h (59 + 17 * k) B') (152 * (1 + k)) (fun j => (setB h (59 + 17 * k) B').1 161 (152 * 0 + j))) 160 (1 + k) 1)).1 (59 + 17 * k + j) = B' j := fun j hj => by rw [r _ (by omega) (by omega) (by omega), sb_r hj]
        refine inv_slot (o := 59 + 17 * k) (q := 1 + k) (P := P) (L := L) (w := w) (c := c) hI (Or.inr ⟨k, by omega, rfl, rfl⟩) (fun i m n1 n2 n3 n4 => ?_) rfl ?_ ?_ ⟨H.1, R'.ag H.1 (AGR.of rb), D'.ag H.1 (AGR.of rb), H.2.2.2.1, H.2.2.2.2.1, fun j hj => ?_⟩
        · by_cases z1 : i = 161
          · subst z1
            rw [lk0_r (by omega), wr_row (by omega)]
            show (wrow (setB h (59 + 17 * k) B') 161 _).1 161 m = _
            rw [wrow_1, if_pos rfl, if_neg (by omega), sb_o (by omega)]
          · by_cases z2 : i = 147
            · subst z2
              unfold lk0
              rw [wr_1, if_neg (fun z => n4 (by unfold Scr; omega)), wr_row (by omega), setG_o (by omega), sb_o (by omega)]
            · by_cases z3 : i = 160
              · subst z3
                rw [lk0_r (by omega), wr_1, if_neg (by omega), setG_o (by omega), sb_o (by omega)]
              · rw [r i z1 z2 z3, sb_o (by omega)]
        · have := rb 0 (by omega)
          rw [show 59 + 17 * k + 0 = 59 + 17 * k from rfl] at this
          rw [this]; exact R'.1
        · rw [lk0_r (by omega), wr_1, if_pos ⟨rfl, rfl⟩]
        · rw [lk0_r (by omega), wr_row (by omega), setG_r hj, sb_o (by omega)]
          exact H.2.2.2.2.2 j hj
  · have e' : ¬ (0 ≤ x1 ∧ x1 ≤ 2) := fun z => e ((le_pred (n := 3) (Or.inl (by decide))).mp z)
    refine ⟨-1, h, h, ?_, ?_, hI⟩
    · unfold f_X7_keep
      rw [f_below, Option.bind_some, if_neg e]; rfl
    · unfold f_X8_keep
      rw [f_in, Option.bind_some, if_neg e']; rfl
theorem st_on : ST_on INV := by
  intro h hI x1
  have x := hI.2.2.2.2.2
  by_cases e : 0 ≤ x1 ∧ x1 < 3
  · have e' : 0 ≤ x1 ∧ x1 ≤ 2 := (le_pred (n := 3) (Or.inl (by decide))).mpr e
    obtain ⟨k, hk, rfl⟩ := nI_of2 (M := 2) (n := 2) rfl (le_nlt e.1) e'.2
    have c1k : (1 : Int32) + nI k = nI (1 + k) := nI_add 1 k
    obtain ⟨ha, hb⟩ := x.2.2.2 k (by omega)
    rcases hb with ⟨a2, -⟩ | ⟨a2, P, L, w, c, H⟩
    · refine ⟨-3, hFind h 1, hMeet (hFind h 1) 1, ?_, ?_, inv_find XX_fr.frx hI (by decide)⟩
      · unfold f_X7_on
        rw [f_below, Option.bind_some, if_pos e, if_neg n1_0, if_pos (inb_nI (by omega) (by decide)), nI_clamp (by omega), if_pos (ha.trans a2)]
        exact fm_find h (by decide) rfl
      · unfold f_X8_on
        have r0 : (hFind h 1).1 160 = h.1 160 := by unfold hFind; rw [wr_row (by omega), wr_row (by omega)]
        rw [f_in, Option.bind_some, if_pos e', if_neg n1_0, c1k, if_pos (inb_nI (by omega) (by decide)), nI_clamp (by omega), r0, if_pos a2]
        exact fm_meet _ (by decide) rfl
    · have a1 : h.1 (59 + 17 * k) 0 = 1 := ha.trans a2
      have d4 : h.1 (59 + 17 * k) 4 = nI L := H.2.2.1.1
      have z0 : h.1 (59 + 17 * k) 0 = 1 := H.2.1.1
      have z1 : h.1 (59 + 17 * k + 1) 0 = 1 := H.2.1.2.1
      have z3 : h.1 (59 + 17 * k + 3) 0 = 1 := H.2.1.2.2.1
      obtain ⟨B', g1, g2⟩ := c_takeB (h := h) (o := 41) (B := RowsAt h 41) (o1 := 59 + 17 * k) (by rw [z0]; decide) (by rw [z1]; decide) (by rw [z3]; decide) (fun j hj => by omega)
      rw [setB_id] at g1
      have g2 : AGR B' (RowsAt h (59 + 17 * k)) := g2
      have R' := H.2.1.ag H.1 g2
      have D' := H.2.2.1.ag H.1 g2
      generalize hG : wr (setG (setB h 41 B') (152 * 0) (fun j => (setB h 41 B').1 161 (152 * (1 + k) + j))) 160 0 1 = G
      have gr : ∀ i, i ≠ 161 → i ≠ 160 → G.1 i = (setB h 41 B').1 i := fun i h1 h2 => by rw [← hG, wr_row h2, setG_o h1]
      have g161 : ∀ j, j < 152 → G.1 161 j = mkG P L w c j := fun j hj => by
        rw [← hG, wr_row (by omega)]
        have := setG_r (h := setB h 41 B') (b := 152 * 0) (g := fun j => (setB h 41 B').1 161 (152 * (1 + k) + j)) hj
        rw [show 152 * 0 + j = j by omega] at this
        rw [this, sb_o (by omega)]
        exact H.2.2.2.2.2 j hj
      have g161' : ∀ j, 152 ≤ j → G.1 161 j = h.1 161 j := fun j hj => by
        rw [← hG, wr_row (by omega)]
        show (wrow (setB h 41 B') 161 _).1 161 j = _
        rw [wrow_1, if_pos rfl, if_neg (by omega), sb_o (by omega)]
      have g160 : ∀ j, G.1 160 j = if j = 0 then 1 else h.1 160 j := fun j => by
        rw [← hG, wr_1, setG_o (by omega), sb_o (by omega)]
        by_cases z : j = 0
        · rw [if_pos ⟨rfl, z⟩, if_pos z]
        · rw [if_neg (fun q => z q.2), if_neg z]
      have c2 : f_X8_on (setB h 41 B') (nI k) = some (nI L, lk0 G) := by
        unfold f_X8_on
        rw [f_in, Option.bind_some, if_pos e', if_neg n1_0, c1k, if_pos (inb_nI (by omega) (by decide)), nI_clamp (by omega), sb_o (by omega), if_neg (by rw [a2]; decide), show (0 : Int32) = nI 0 from rfl, m_copy (by omega) (by omega) (by omega), Option.bind_some, if_pos (inb_nI (by omega) (by decide)), nI_clamp (by omega), v1, nm_eq, hG, show f_X8_look G (nI 0) = some (lk0 G) from rfl, Option.bind_some]
        have ms : lk0 G = MSt (lk0 G) 0 P L w c := (MSt_id (fun j hj => by rw [lk0_r (by omega), Nat.zero_add]; exact g161 j hj)).symm
        have q1 := v_L (h := lk0 G) (b := 0) (P := P) (L := L) (w := w) (c := c) lk0_ok
        rw [← ms] at q1
        rw [q1]
        rfl
      have rb : ∀ j, j < 17 → (lk0 G).1 (41 + j) = B' j := fun j hj => by rw [lk0_r (by omega), gr _ (by omega) (by omega), sb_r hj]
      refine ⟨nI L, setB h 41 B', _, ?_, c2, ?_⟩
      · unfold f_X7_on
        rw [f_below, Option.bind_some, if_pos e, if_neg n1_0, if_pos (inb_nI (by omega) (by decide)), nI_clamp (by omega), if_neg (by rw [a1]; decide), if_pos (inb_nI (by omega) (by decide)), g1, Option.bind_some, sb_0, D'.1]
      · refine inv_slot (o := 41) (q := 0) (P := P) (L := L) (w := w) (c := c) hI (Or.inl ⟨rfl, rfl⟩) (fun i m n1 n2 n3 n4 => ?_) (by rw [← hG]; rfl) ?_ ?_ ⟨H.1, R'.ag H.1 (AGR.of rb), D'.ag H.1 (AGR.of rb), H.2.2.2.1, H.2.2.2.2.1, fun j hj => ?_⟩
        · by_cases z1 : i = 161
          · subst z1
            rw [lk0_r (by omega), g161' m (by omega)]
          · by_cases z2 : i = 147
            · subst z2
              unfold lk0
              rw [wr_1, if_neg (fun z => n4 (by unfold Scr; omega)), gr _ (by omega) (by omega), sb_o (by omega)]
            · by_cases z3 : i = 160
              · subst z3
                rw [lk0_r (by omega), g160, if_neg (by omega)]
              · rw [lk0_r z2, gr i z1 z3, sb_o (by omega)]
        · have := rb 0 (by omega)
          rw [show 41 + 0 = 41 from rfl] at this
          rw [this]; exact R'.1
        · rw [lk0_r (by omega), g160, if_pos rfl]
        · rw [lk0_r (by omega), show 152 * 0 + j = j by omega]
          exact g161 j hj
  · have e' : ¬ (0 ≤ x1 ∧ x1 ≤ 2) := fun z => e ((le_pred (n := 3) (Or.inl (by decide))).mp z)
    refine ⟨-1, h, h, ?_, ?_, hI⟩
    · unfold f_X7_on
      rw [f_below, Option.bind_some, if_neg e]; rfl
    · unfold f_X8_on
      rw [f_in, Option.bind_some, if_neg e']; rfl
end INV
