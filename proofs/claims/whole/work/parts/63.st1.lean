section INV
variable {h h' : TT} {o k b q : Nat} {B : Nat → Nat → Int32} {P : Nat → Int32} {L : Nat} {w c : Nat → Int32}
theorem st_pull : ST_pull INV := by
  intro h hI x1
  have x := hI.2.2.2.2.2
  rcases c_laid x x1 with ⟨c1, c2⟩ | ⟨P, L, w, c, i, H, hi, rfl, c1, c2⟩
  · refine ⟨-1, h, lk0 h, ?_, ?_, inv_lk hI⟩
    · unfold f_X7_pull
      rw [c1]; rfl
    · unfold f_X8_pull
      rw [c2 h rfl rfl]; rfl
  · have hL := H.2.2.2.1.1
    have A := H.2.2.2.1
    refine ⟨nI (puN P L w c i), wr h 0 13 (nI (hoN P L w c i)), wr (lk0 (wr h 0 13 (nI (hoN P L w c i)))) 147 2 (nI (hoN P L w c i)), ?_, ?_, inv_ask hI⟩
    · unfold f_X7_pull
      have q := c_hold (h := h) (o := 41) H.2.1 H.2.2.1 H.1 A hi
      rw [setB_id] at q
      obtain ⟨z1, z2, z3⟩ := hok_c H (h' := wr h 0 13 (nI (hoN P L w c i))) (fun j hj => wr_row (by omega))
      have q2 := c_pull (h := wr h 0 13 (nI (hoN P L w c i))) (o := 41) z2 z3 H.1 (i := i) (by omega)
      rw [z1] at q2
      rw [c1, Option.bind_some, if_neg n1_0, q, Option.bind_some, nm_eq, q2]
      rfl
    · unfold f_X8_pull
      rw [c2 _ (wr_row (by omega)) (wr_row (by omega)), Option.bind_some, if_neg n1_0]
      have q := m_hold (h := lk0 (wr h 0 13 (nI (hoN P L w c i)))) (b := 0) (w := w) (c := c) lk0_ok H.1 hL hi
      have q2 := m_pull (h := lk0 (wr h 0 13 (nI (hoN P L w c i)))) (b := 0) (w := w) (c := c) lk0_ok H.1 hL H.2.2.1.2.2.1.cu (i := i) (by omega)
      rw [← H.ms (wr_row (by omega))] at q q2
      show (f_X8_holdOf (lk0 (wr h 0 13 (nI (hoN P L w c i)))) (nI i)).bind _ = _
      rw [q, Option.bind_some]
      show (f_X8_pullOf (lk0 (wr h 0 13 (nI (hoN P L w c i)))) (nI i)).bind _ = _
      rw [q2]
      rfl
theorem kV_4 {i : Nat} (e : kV P w c i = 4) : cF P i ≠ 0 := fun q => by
  unfold kV kaV at e
  rw [if_pos q] at e
  by_cases e1 : w i = -9
  · rw [if_pos e1] at e
    by_cases e2 : c i = 1
    · rw [if_pos e2] at e; exact absurd e (by decide)
    · rw [if_neg e2] at e; exact absurd e (by decide)
  · rw [if_neg e1] at e; exact absurd e (by decide)
def ofP (k x : Int32) : Prop := k = x ∨ (k = 4 ∧ x = 3) ∨ (k = 5 ∧ x = 1)
theorem c_isOf {h : TT} {x1 : Int32} {v : Int32} (hk : f_X0_kindOf h o x1 = some v) (x : Int32) : (ofP v x → f_X0_isOf h o x1 x = some 1) ∧ (¬ ofP v x → f_X0_isOf h o x1 x = some 0) := by
  unfold f_X0_isOf f_X0_isOf_31 f_X0_isOf_21 f_X0_isOf_31 ofP
  rw [hk, Option.bind_some]
  by_cases e1 : v = x
  · rw [if_pos e1]
    exact ⟨fun _ => rfl, fun q => absurd (Or.inl e1) q⟩
  · rw [if_neg e1]
    by_cases e2 : v = 4
    · rw [if_pos e2]
      by_cases e3 : x = 3
      · rw [if_pos e3]
        exact ⟨fun _ => rfl, fun q => absurd (Or.inr (Or.inl ⟨e2, e3⟩)) q⟩
      · rw [if_neg e3, if_neg (by rw [e2]; decide)]
        exact ⟨fun q => by rcases q with q | q | q; exact absurd q e1; exact absurd q.2 e3; exact absurd (e2.symm.trans q.1) (by decide), fun _ => rfl⟩
    · rw [if_neg e2]
      by_cases e4 : v = 5
      · rw [if_pos e4]
        by_cases e5 : x = 1
        · rw [if_pos e5]
          exact ⟨fun _ => rfl, fun q => absurd (Or.inr (Or.inr ⟨e4, e5⟩)) q⟩
        · rw [if_neg e5]
          exact ⟨fun q => by rcases q with q | q | q; exact absurd q e1; exact absurd q.1 e2; exact absurd q.2 e5, fun _ => rfl⟩
      · rw [if_neg e4]
        exact ⟨fun q => by rcases q with q | q | q; exact absurd q e1; exact absurd q.1 e2; exact absurd q.1 e4, fun _ => rfl⟩
theorem st_mark : ST_mark INV := by
  intro h hI x1 x2
  have x := hI.2.2.2.2.2
  have hX := XX_fr.frx
  rcases c_laid x x1 with ⟨c1, c2⟩ | ⟨P, L, w, c, i, H, hi, rfl, c1, c2⟩
  · refine ⟨-1, h, lk0 h, ?_, ?_, inv_lk hI⟩
    · unfold f_X7_mark
      rw [c1]; rfl
    · unfold f_X8_mark
      rw [c2 h rfl rfl]; rfl
  · have hL := H.2.2.2.1.1
    have A := H.2.2.2.1
    have bad : ¬ ((1 : Int32) ≤ x2 ∧ x2 ≤ 6) → f_X7_mark h (nI i) x2 = some (-1, h) := fun hb => by
      unfold f_X7_mark
      rw [c1, Option.bind_some, if_neg n1_0]
      by_cases e : x2 < 1
      · rw [if_pos e]
      · rw [if_neg e, if_neg (fun q => hb ⟨by rw [i32_le]; rw [i32_lt] at e; omega, q⟩)]
    by_cases e : (1 : Int32) ≤ x2 ∧ x2 ≤ 6
    · have e1 : ¬ x2 < 1 := fun q => by have a := i32_lt.mp q; have b := i32_le.mp e.1; omega
      have kc := c_kind (h := h) (o := 41) H.2.1 H.2.2.1 H.1 hL hi
      rw [setB_id] at kc
      have kM : ∀ g : TT, g.1 161 = h.1 161 → f_X8_kind (lk0 g) (nI i) = some (kV P w c i) := fun g eg => by
        have q := m_kind_ (h := lk0 g) (b := 0) (L := L) (w := w) (c := c) lk0_ok H.1 (i := i) (by omega)
        rw [← H.ms eg] at q
        exact q
      have m41 : ¬ ofP (kV P w c i) x2 → ∀ g : TT, (if kV P w c i = x2 then f_X8_mark_57 (nI i) x2 g else (if x2 = (1 : Int32) then (if kV P w c i = (5 : Int32) then f_X8_mark_57 (nI i) x2 g else f_X8_mark_41 (nI i) x2 (kV P w c i) g) else f_X8_mark_41 (nI i) x2 (kV P w c i) g)) = f_X8_mark_51 g := fun hn g => by
        unfold ofP at hn
        have n41 : f_X8_mark_41 (nI i) x2 (kV P w c i) g = f_X8_mark_51 g := by
          unfold f_X8_mark_41
          by_cases q : x2 = 3
          · rw [if_pos q, if_neg (fun z => hn (Or.inr (Or.inl ⟨z, q⟩)))]
          · rw [if_neg q]
        rw [if_neg (fun z => hn (Or.inl z)), n41]
        by_cases q : x2 = 1
        · rw [if_pos q, if_neg (fun z => hn (Or.inr (Or.inr ⟨z, q⟩)))]
        · rw [if_neg q]
      have m57 : ofP (kV P w c i) x2 → ∀ g : TT, (if kV P w c i = x2 then f_X8_mark_57 (nI i) x2 g else (if x2 = (1 : Int32) then (if kV P w c i = (5 : Int32) then f_X8_mark_57 (nI i) x2 g else f_X8_mark_41 (nI i) x2 (kV P w c i) g) else f_X8_mark_41 (nI i) x2 (kV P w c i) g)) = f_X8_mark_57 (nI i) x2 g := fun hn g => by
        by_cases q0 : kV P w c i = x2
        · rw [if_pos q0]
        · rw [if_neg q0]
          rcases hn with hn | hn | hn
          · exact absurd hn q0
          · unfold f_X8_mark_41
            rw [if_neg (by rw [hn.2]; decide), if_pos hn.2, if_pos hn.1]
          · rw [if_pos hn.2, if_pos hn.1]
      by_cases ho : ofP (kV P w c i) x2
      · refine ⟨mkV P L w i x2, h, lk0 h, ?_, ?_, inv_lk hI⟩
        · unfold f_X7_mark
          have q := c_mark (h := h) (o := 41) H.2.1 H.2.2.1 H.1 hL hi x2
          rw [setB_id] at q
          rw [c1, Option.bind_some, if_neg n1_0, if_neg e1, if_pos e.2, (c_isOf kc x2).1 ho, Option.bind_some, if_neg n1_0, q]
          rfl
        · unfold f_X8_mark
          have q := m_mark (h := lk0 h) (b := 0) (w := w) (c := c) lk0_ok H.1 hL (i := i) (by omega) x2 (fun e4 => by
            refine kV_4 (w := w) (c := c) ?_
            rcases ho with z | z | z
            · exact z.trans e4
            · exact absurd (e4.symm.trans z.2) (by decide)
            · exact absurd (e4.symm.trans z.2) (by decide))
          rw [← H.ms rfl] at q
          rw [c2 h rfl rfl, Option.bind_some, if_neg n1_0, f_in, Option.bind_some, if_pos e, if_neg n1_0]
          show (f_X8_kind (lk0 h) (nI i)).bind _ = _
          rw [kM h rfl, Option.bind_some]
          exact (m57 ho (lk0 h)).trans q
      · refine ⟨-3, hFind h 3, hMeet (lk0 (hFind h 3)) 3, ?_, ?_, ?_⟩
        · unfold f_X7_mark
          rw [c1, Option.bind_some, if_neg n1_0, if_neg e1, if_pos e.2, (c_isOf kc x2).2 ho, Option.bind_some, if_pos rfl]
          exact fm_find h (by decide) rfl
        · unfold f_X8_mark
          have r0 : (hFind h 3).1 160 = h.1 160 := by unfold hFind; rw [wr_row (by omega), wr_row (by omega)]
          have r1 : (hFind h 3).1 161 = h.1 161 := by unfold hFind; rw [wr_row (by omega), wr_row (by omega)]
          rw [c2 _ r0 r1, Option.bind_some, if_neg n1_0, f_in, Option.bind_some, if_pos e, if_neg n1_0]
          show (f_X8_kind (lk0 (hFind h 3)) (nI i)).bind _ = _
          rw [kM _ r1, Option.bind_some]
          exact (m41 ho _).trans (fm_meet _ (by decide) rfl)
        · have := inv_lk (inv_find hX hI (f := 3) (by decide))
          have e9 : hMeet (lk0 (hFind h 3)) 3 = lk0 (hMeet (hFind h 3) 3) := by
            unfold hMeet lk0
            refine Prod.ext (funext fun a => funext fun j => ?_) rfl
            simp only [wr_1]
            by_cases z1 : a = 148 ∧ j = 3
            · rw [if_pos z1, if_neg (by omega), if_pos z1]; simp; intro z5; omega
            · rw [if_neg z1]
              by_cases z2 : a = 147 ∧ j = 0
              · rw [if_pos z2, if_neg (by omega), if_neg z1, if_pos z2]
              · rw [if_neg z2]
                by_cases z3 : a = 147 ∧ j = 22
                · rw [if_pos z3, if_pos z3]
                · rw [if_neg z3, if_neg z3, if_neg z1, if_neg z2]
          rw [e9]
          exact this
    · refine ⟨-1, h, lk0 h, bad e, ?_, inv_lk hI⟩
      unfold f_X8_mark
      rw [c2 h rfl rfl, Option.bind_some, if_neg n1_0, f_in, Option.bind_some, if_neg e]; rfl
theorem st_slumped : ST_slumped INV := by
  intro h hI
  have x := hI.2.2.2.2.2
  rcases home x with ⟨a1, a2, -⟩ | ⟨a1, a2, P, L, w, c, H⟩
  · refine ⟨-4, h, h, ?_, ?_, hI⟩
    · unfold f_X7_slumped
      rw [if_pos a1]
    · unfold f_X8_slumped
      rw [if_pos ib04', tn0, if_pos a2]
  · have hL := H.2.2.2.1.1
    have h60 := H.1.a60
    refine ⟨nI (cnt (fB w) L), wr h 0 13 (cv (fsN w L 0 100)), wr (lk0 (wr h 0 13 (cv (fsN w L 0 100)))) 147 2 (cv (fsN w L 0 100)), ?_, ?_, inv_ask hI⟩
    · unfold f_X7_slumped
      have q := c_first (h := h) (o := 41) H.2.2.1 (by omega)
      rw [setB_id] at q
      have d5 : h.1 41 5 = nI (cnt (fB w) (aF P)) := H.2.2.1.2.1
      rw [if_neg (by rw [a1]; decide), q, Option.bind_some, nm_eq, wr_row (by omega), d5, cnt_L H.2.2.2.1]
    · unfold f_X8_slumped
      have q := m_first (h := lk0 (wr h 0 13 (cv (fsN w L 0 100)))) (b := 0) (P := P) (L := L) (w := w) (c := c) lk0_ok (by omega)
      have q2 := m_many (h := lk0 (wr h 0 13 (cv (fsN w L 0 100)))) (b := 0) (P := P) (L := L) (w := w) (c := c) lk0_ok (by omega)
      rw [← H.ms (wr_row (by omega))] at q q2
      rw [if_pos ib04', tn0, wr_row (by omega), if_neg (by rw [a2]; decide), m_look0, Option.bind_some, q, Option.bind_some, q2]
      rfl
/-- one house is another now -/
theorem inv_slot (hI : INV h) (ho : (o = 41 ∧ q = 0) ∨ ∃ k, k < 3 ∧ o = 59 + 17 * k ∧ q = 1 + k) (e : ∀ i k, ¬ (o ≤ i ∧ i < o + 17) → ¬ (i = 160 ∧ k = q) → ¬ (i = 161 ∧ 152 * q ≤ k ∧ k < 152 * q + 152) → ¬ Scr i k → h'.1 i k = h.1 i k) (e2 : h'.2 = h.2) (t0 : h'.1 o 0 = 1) (t1 : h'.1 160 q = 1) (H : HOk h' o q P L w c) : INV h' := by
  obtain ⟨h1, h2, h3, h4, h5, h6⟩ := hI
  have er : ∀ i, ¬ (o ≤ i ∧ i < o + 17) → i ≠ 160 → i ≠ 161 → (∀ k, ¬ Scr i k) → h'.1 i = h.1 i := fun i a b c d => funext fun k => e i k a (fun z => b z.1) (fun z => c z.1) (d k)
  have no : ∀ i, i < 16 ∨ 110 ≤ i → ¬ (o ≤ i ∧ i < o + 17) := fun i hi => by rcases ho with ho | ⟨k, hk, ho⟩ <;> omega
  have sl : HX h' o q := ⟨t0.trans t1.symm, Or.inr ⟨t1, P, L, w, c, H⟩⟩
  refine ⟨?_, ⟨?_, fun k hk => ?_⟩, by unfold R_frac; rw [e2]; exact h3, R_rows_fr h4 (fun i hi => er i (no i (by omega)) (by omega) (by omega) (fun k z => by unfold Scr at z; omega)), R_txt_fr h5 (fun i hi => er i (no i (by omega)) (by omega) (by omega) (fun k z => by unfold Scr at z; omega)), fun k hk => ?_, fun k hk => ?_, ?_, fun k hk => ?_⟩
  · unfold R_told
    rw [e 0 13 (no 0 (by omega)) (by omega) (by omega) (fun z => by unfold Scr at z; omega), e 147 2 (no 147 (by omega)) (by omega) (by omega) (fun z => by unfold Scr at z; omega)]
    exact h1
  · rw [e 0 16 (no 0 (by omega)) (by omega) (by omega) (fun z => by unfold Scr at z; omega), e 147 0 (no 147 (by omega)) (by omega) (by omega) (fun z => by unfold Scr at z; omega)]
    exact h2.1
  · rw [er 146 (no 146 (by omega)) (by omega) (by omega) (fun k z => by unfold Scr at z; omega), er 148 (no 148 (by omega)) (by omega) (by omega) (fun k z => by unfold Scr at z; omega)]
    exact h2.2 k hk
  · have n : ∀ i, (16 ≤ i ∧ i ≤ 40) ∨ (153 ≤ i ∧ i ≤ 157) → ¬ (o ≤ i ∧ i < o + 17) := fun i hi => by rcases ho with ho | ⟨k, hk, ho⟩ <;> omega
    exact (h6.1 k hk).fr (er _ (n _ (by omega)) (by omega) (by omega) (fun k z => by unfold Scr at z; omega)) (er _ (n _ (by omega)) (by omega) (by omega) (fun k z => by unfold Scr at z; omega)) (by rw [er 154 (n _ (by omega)) (by omega) (by omega) (fun k z => by unfold Scr at z; omega)]) (fun j _ => by rw [er 155 (n _ (by omega)) (by omega) (by omega) (fun k z => by unfold Scr at z; omega)])
  · have n : ∀ i, (16 ≤ i ∧ i ≤ 40) ∨ (153 ≤ i ∧ i ≤ 157) → ¬ (o ≤ i ∧ i < o + 17) := fun i hi => by rcases ho with ho | ⟨k, hk, ho⟩ <;> omega
    exact (h6.2.1 k hk).fr (er _ (n _ (by omega)) (by omega) (by omega) (fun k z => by unfold Scr at z; omega)) (er _ (n _ (by omega)) (by omega) (by omega) (fun k z => by unfold Scr at z; omega)) (er _ (n _ (by omega)) (by omega) (by omega) (fun k z => by unfold Scr at z; omega)) (er _ (n _ (by omega)) (by omega) (by omega) (fun k z => by unfold Scr at z; omega)) (by rw [er 156 (n _ (by omega)) (by omega) (by omega) (fun k z => by unfold Scr at z; omega)]) (er _ (n _ (by omega)) (by omega) (by omega) (fun k z => by unfold Scr at z; omega))
  · rcases ho with ⟨rfl, rfl⟩ | ⟨k, hk, rfl, rfl⟩
    · exact sl
    · exact h6.2.2.1.fr (fun j hj => er _ (by omega) (by omega) (by omega) (fun k z => by unfold Scr at z; omega)) (e 160 0 (by omega) (by omega) (by omega) (fun z => by unfold Scr at z; omega)) (fun j hj => e 161 _ (by omega) (by omega) (by omega) (fun z => by unfold Scr at z; omega))
  · rcases ho with ⟨rfl, rfl⟩ | ⟨k', hk', rfl, rfl⟩
    · exact (h6.2.2.2 k hk).fr (fun j hj => er _ (by omega) (by omega) (by omega) (fun k z => by unfold Scr at z; omega)) (e 160 _ (by omega) (by omega) (by omega) (fun z => by unfold Scr at z; omega)) (fun j hj => e 161 _ (by omega) (by omega) (by omega) (fun z => by unfold Scr at z; omega))
    · by_cases ek : k = k'
      · rw [ek]; exact sl
      · exact (h6.2.2.2 k hk).fr (fun j hj => er _ (by omega) (by omega) (by omega) (fun k z => by unfold Scr at z; omega)) (e 160 _ (by omega) (by omega) (by omega) (fun z => by unfold Scr at z; omega)) (fun j hj => e 161 _ (by omega) (by omega) (by omega) (fun z => by unfold Scr at z; omega))
/-- the house as it is is another now, in both -/
theorem inv_home (hI : INV h) (t1 : h.1 160 0 = 1) (hW : WF P) (R : RS B P) (D : RD B P L w c) (A : AW P L w c) (S : stab P L w c) : INV (MSt (lk0 (setB h 41 B)) 0 P L w c) := by
  have r : ∀ i, i ≠ 161 → i ≠ 147 → (MSt (lk0 (setB h 41 B)) 0 P L w c).1 i = (setB h 41 B).1 i := fun i h1 h2 => by
    unfold MSt
    rw [setG_o h1, lk0_r h2]
  have rb : ∀ j, j < 17 → (MSt (lk0 (setB h 41 B)) 0 P L w c).1 (41 + j) = B j := fun j hj => by rw [r _ (by omega) (by omega), sb_r hj]
  refine inv_slot (o := 41) (q := 0) (P := P) (L := L) (w := w) (c := c) hI (Or.inl ⟨rfl, rfl⟩) (fun i k n1 n2 n3 n4 => ?_) rfl ?_ ?_ ⟨hW, R.ag hW (AGR.of rb), D.ag hW (AGR.of rb), A, S, fun j hj => ?_⟩
  · by_cases z1 : i = 161
    · subst z1
      show (wrow (lk0 (setB h 41 B)) 161 _).1 161 k = _
      rw [wrow_1, if_pos rfl, if_neg (by omega), lk0_r (by omega), sb_o (by omega)]
    · by_cases z2 : i = 147
      · subst z2
        unfold MSt
        rw [setG_o z1]
        unfold lk0
        rw [wr_1, if_neg (fun z => n4 (by unfold Scr; omega)), sb_o (by omega)]
      · rw [r i z1 z2, sb_o (by omega)]
  · rw [show (41 : Nat) = 41 + 0 from rfl, rb 0 (by omega)]; exact R.1
  · rw [r _ (by omega) (by omega), sb_o (by omega)]; exact t1
  · unfold MSt
    have := setG_r (h := lk0 (setB h 41 B)) (b := 0) (g := mkG P L w c) hj
    rw [Nat.zero_add] at this
    rw [show 152 * 0 + j = j by omega]
    exact this
theorem c_go (hW : WF P) {n : Nat} (hn : n < 2 ^ 31) : ∀ (d f k L : Nat) (w : Nat → Int32) (B : Nat → Nat → Int32), RS B P → RD B P L w c → AW P L w c → stab P L w c → k + d = n → d < f → L + d ≤ aF P → ∃ B', f_X7_go_51 f (nI n) (nI k) (setB h 41 B) = some (nI (L + d), setB h 41 B') ∧ RS B' P ∧ RD B' P (L + d) (loW P c d L w) c ∧ AW P (L + d) (loW P c d L w) c ∧ stab P (L + d) (loW P c d L w) c := by
  have h60 := hW.a60
  intro d
  induction d with
  | zero =>
    intro f k L w B R D A S hk hf hL
    obtain ⟨f, rfl⟩ : ∃ g, f = g + 1 := ⟨f - 1, by omega⟩
    rw [f_X7_go_51, if_pos (nI_le (by omega) (by omega)), sb_0, D.1]
    exact ⟨B, rfl, R, D, A, S⟩
  | succ d ih =>
    intro f k L w B R D A S hk hf hL
    obtain ⟨f, rfl⟩ : ∃ g, f = g + 1 := ⟨f - 1, by omega⟩
    obtain ⟨B1, e1, R1, D1, A1⟩ := c_next (h := h) (o := 41) hW R D A S (by omega)
    obtain ⟨B2, e2, R2, D2, A2, S2⟩ := ih f (k + 1) (L + 1) _ B1 R1 D1 A1 (SE_stab (by omega) _) (by omega) (by omega) (by omega)
    rw [f_X7_go_51, if_neg (nI_ge (by omega) (by omega)), e1, Option.bind_some, nI_1, e2, show L + 1 + d = L + (d + 1) by omega]
    rw [show L + 1 + d = L + (d + 1) by omega] at D2 A2 S2
    exact ⟨B2, rfl, R2, D2, A2, S2⟩
theorem st_go : ST_go INV := by
  intro h hI x1
  have x := hI.2.2.2.2.2
  by_cases e : 0 ≤ x1 ∧ x1 ≤ 60
  · obtain ⟨n, hn, rfl⟩ := nI_of2 (M := 60) (n := 60) rfl (le_nlt e.1) e.2
    rcases home x with ⟨a1, a2, -⟩ | ⟨a1, a2, P, L, w, c, H⟩
    · refine ⟨-4, h, h, ?_, ?_, hI⟩
      · unfold f_X7_go
        rw [f_upto, Option.bind_some, if_pos e, if_neg n1_0, if_pos a1]
      · unfold f_X8_go
        rw [f_in, Option.bind_some, if_pos e, if_neg n1_0, if_pos ib04', tn0, if_pos a2]
    · have hL := H.2.2.2.1.1
      have h60 := H.1.a60
      have d4 : h.1 41 4 = nI L := H.2.2.1.1
      have d2 : h.1 (41 + 3) 2 = nI (aF P) := H.2.1.2.2.2.2.2.2.1
      by_cases e2 : L + n ≤ aF P
      · obtain ⟨B', g1, R', D', A', S'⟩ := c_go (h := h) H.1 (n := n) (by omega) n KF 0 L w (RowsAt h 41) H.2.1 H.2.2.1 H.2.2.2.1 H.2.2.2.2.1 (by omega) (by have := KF_ge; omega) e2
        rw [setB_id] at g1
        refine ⟨nI (L + n), setB h 41 B', MSt (lk0 (setB h 41 B')) 0 P (L + n) (loW P c n L w) c, ?_, ?_, inv_home hI a2 H.1 R' D' A' S'⟩
        · unfold f_X7_go
          rw [f_upto, Option.bind_some, if_pos e, if_neg n1_0, if_neg (by rw [a1]; decide), d4, nI_add, d2, if_pos (nI_le e2 (by omega))]
          exact g1
        · unfold f_X8_go
          have ms : lk0 (setB h 41 B') = MSt (lk0 (setB h 41 B')) 0 P L w c := H.ms (sb_o (by omega))
          have q1 := v_L (h := lk0 (setB h 41 B')) (b := 0) (P := P) (L := L) (w := w) (c := c) lk0_ok
          have q2 := m_all (h := lk0 (setB h 41 B')) (b := 0) (L := L) (w := w) (c := c) lk0_ok H.1
          have q3 := m_lays (h := lk0 (setB h 41 B')) (b := 0) (L := L) (w := w) (c := c) lk0_ok H.1 H.2.2.1.2.2.1.cu (n := n) e2
          rw [← ms] at q1 q2 q3
          rw [f_in, Option.bind_some, if_pos e, if_neg n1_0, if_pos ib04', tn0, sb_o (by omega), if_neg (by rw [a2]; decide), m_look0, Option.bind_some, q1, Option.bind_some, q2, Option.bind_some, nI_add, if_pos (nI_le e2 (by omega)), q3, Option.bind_some, v_L lk0_ok]
          rfl
      · refine ⟨-6, h, lk0 h, ?_, ?_, inv_lk hI⟩
        · unfold f_X7_go
          rw [f_upto, Option.bind_some, if_pos e, if_neg n1_0, if_neg (by rw [a1]; decide), d4, nI_add, d2, if_neg (nI_ge (by omega) (by omega))]
        · unfold f_X8_go
          have ms : lk0 h = MSt (lk0 h) 0 P L w c := H.ms rfl
          have q1 := v_L (h := lk0 h) (b := 0) (P := P) (L := L) (w := w) (c := c) lk0_ok
          have q2 := m_all (h := lk0 h) (b := 0) (L := L) (w := w) (c := c) lk0_ok H.1
          rw [← ms] at q1 q2
          rw [f_in, Option.bind_some, if_pos e, if_neg n1_0, if_pos ib04', tn0, if_neg (by rw [a2]; decide), m_look0, Option.bind_some, q1, Option.bind_some, q2, Option.bind_some, nI_add, if_neg (nI_ge (by omega) (by omega))]
  · refine ⟨-1, h, h, ?_, ?_, hI⟩
    · unfold f_X7_go
      rw [f_upto, Option.bind_some, if_neg e]; rfl
    · unfold f_X8_go
      rw [f_in, Option.bind_some, if_neg e]; rfl
end INV
