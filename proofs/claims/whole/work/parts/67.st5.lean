def pfV (Q : Nat → Int32) (v : Int32) : Int32 := if v = 0 then Q 0 else if v = 1 then Q 1 else if v = 2 then nI (st (qz Q) (gn Q 0)) else Q 3 / 2
section INV
variable {h h' : TT} {o k b q : Nat} {B : Nat → Nat → Int32} {P : Nat → Int32} {L : Nat} {w c g : Nat → Int32}
theorem XX_row (x : XX h) (e : ∀ i, SX i → h'.1 i = h.1 i) : XX h' := XX_fr h h' x (fun i k hi _ => by rw [e i hi])
theorem XX_t (x : XX h) {v : Int32} : XX (wr h 0 13 v) := XX_row x (fun i hi => by have := SX_no hi; rw [wr_row (by omega)])
theorem XX_f (x : XX h) {f : Nat} : XX (hFind h f) := XX_row x (fun i hi => by have := SX_no hi; rw [hFind_r (by omega) (by omega)])
theorem c_pf (x : PLX h k) (t : h.1 156 k = 1) (v : Int32) : f_X3_fact h (25 + 4 * k) v = some (pfV (QF h k) v) := by
  obtain ⟨hQ, q1, q2, q3, q⟩ := pl_there x t
  unfold f_X3_fact pfV
  rw [c_sl x t, q1, q2, q3]
  by_cases e0 : v = 0
  · rw [if_pos e0, if_pos e0]
  · rw [if_neg e0, if_neg e0]
    by_cases e1 : v = 1
    · rw [if_pos e1, if_pos e1]
    · rw [if_neg e1, if_neg e1]
      by_cases e2 : v = 2
      · rw [if_pos e2, if_pos e2]
      · rw [if_neg e2, if_neg e2]; rfl
theorem m_pf (hQ : WQ (QF h k)) (hk : k < 4) (v : Int32) (hv : 0 ≤ v ∧ v ≤ 3) : f_X8_planTells h (nI k) v = some (pfV (QF h k) v) := by
  unfold f_X8_planTells pfV
  rw [m_pB hQ hk, m_pP hk, k26]
  have iv : ∀ j, j < 26 → inb (nI (26 * k) + nI j) 104 = true := fun j hj => by rw [nI_add]; exact inb_nI (by omega) (by decide)
  have cl : ∀ j, j < 26 → (nI (26 * k) + nI j).toNatClampNeg = 26 * k + j := fun j hj => by rw [nI_add, nI_clamp (by omega)]
  obtain ⟨n, hn, rfl⟩ := nI_of2 (M := 3) (n := 3) rfl (le_nlt hv.1) hv.2
  rcases (show n = 0 ∨ n = 1 ∨ n = 2 ∨ n = 3 by omega) with rfl | rfl | rfl | rfl
  · rw [if_neg (by decide), if_pos (iv 0 (by omega)), cl 0 (by omega)]
    rfl
  · rw [if_neg (by decide), if_pos (iv 1 (by omega)), cl 1 (by omega)]
    rfl
  · rfl
  · rfl
theorem lt4' {x : Int32} : (0 ≤ x ∧ x ≤ 3) ↔ (0 ≤ x ∧ x < 4) := le_pred (n := 4) (Or.inl (by decide))
theorem st_about : ST_about INV := by
  intro h hI x1 x2
  have x := hI.2.2.2.2.2
  rcases place x1 4 (by decide) with ⟨k, hk, rfl⟩ | hb
  · by_cases e2 : 0 ≤ x2 ∧ x2 < 4
    · obtain ⟨j, hj, rfl⟩ := nI_of2 (M := 3) (n := 3) rfl (le_nlt e2.1) (lt4'.mpr e2).2
      rcases sn_cs (x.1 k hk) with ⟨q1, q2⟩ | ⟨q1, q2⟩
      · refine ⟨-3, hFind h 1, hMeet (hFind h 1) 1, ?_, ?_, inv_find XX_fr.frx hI (by decide)⟩
        · unfold f_X7_about
          rw [f_below, Option.bind_some, if_pos (lt4 hk).1, if_neg n1_0, f_below, Option.bind_some, if_pos e2, if_neg n1_0, if_pos (inb_nI hk (by decide)), nI_clamp (by omega), if_pos q1]
          exact fm_find h (by decide) rfl
        · unfold f_X8_about
          rw [f_isPlace, Option.bind_some, if_pos (lt4 hk).2, if_neg n1_0, f_in, Option.bind_some, if_pos (lt4'.mpr e2), if_neg n1_0, if_pos (inb_nI hk (by decide)), nI_clamp (by omega), hFind_r (by omega) (by omega), if_pos q2]
          exact fm_meet _ (by decide) rfl
      · have sv : h.1 (17 + 2 * k) j = h.1 155 (4 * k + j) := by
          obtain ⟨-, b⟩ := x.1 k hk
          rcases b with b | ⟨-, b, -⟩
          · rw [q2] at b; exact absurd b (by decide)
          · exact (b j (by omega)).1
        refine ⟨1, wr h 0 13 (h.1 155 (4 * k + j)), wr (wr h 0 13 (h.1 155 (4 * k + j))) 147 2 (h.1 155 (4 * k + j)), ?_, ?_, inv_tell XX_fr.frx hI⟩
        · unfold f_X7_about
          rw [f_below, Option.bind_some, if_pos (lt4 hk).1, if_neg n1_0, f_below, Option.bind_some, if_pos e2, if_neg n1_0, if_pos (inb_nI hk (by decide)), nI_clamp (by omega), if_neg (by rw [q1]; decide), if_pos (inb_nI hk (by decide)), if_pos (inb_nI (by omega) (by decide)), nI_clamp (by omega), show 16 + 2 * k + 1 = 17 + 2 * k by omega, sv]
          rfl
        · unfold f_X8_about
          rw [f_isPlace, Option.bind_some, if_pos (lt4 hk).2, if_neg n1_0, f_in, Option.bind_some, if_pos (lt4'.mpr e2), if_neg n1_0, if_pos (inb_nI hk (by decide)), nI_clamp (by omega), wr_row (by omega), if_neg (by rw [q2]; decide), k4s, if_pos (inb_nI (by omega) (by decide)), nI_clamp (by omega), wr_row (by omega)]
          rfl
    · refine ⟨-1, h, h, ?_, ?_, hI⟩
      · unfold f_X7_about
        rw [f_below, Option.bind_some, if_pos (lt4 hk).1, if_neg n1_0, f_below, Option.bind_some, if_neg e2]; rfl
      · unfold f_X8_about
        rw [f_isPlace, Option.bind_some, if_pos (lt4 hk).2, if_neg n1_0, f_in, Option.bind_some, if_neg (fun z => e2 (lt4'.mp z))]; rfl
  · refine ⟨-1, h, h, ?_, ?_, hI⟩
    · unfold f_X7_about
      rw [f_below, Option.bind_some, if_neg (not_lt4 hb).1]; rfl
    · unfold f_X8_about
      rw [f_isPlace, Option.bind_some, if_neg (not_lt4 hb).2]; rfl
theorem st_tells : ST_tells INV := by
  intro h hI x1 x2
  have x := hI.2.2.2.2.2
  rcases place x1 4 (by decide) with ⟨k, hk, rfl⟩ | hb
  · by_cases e2 : 0 ≤ x2 ∧ x2 < 4
    · rcases pl_cs (x.2.1 k hk) with ⟨q1, q2⟩ | ⟨q1, q2⟩
      · refine ⟨-3, hFind h 1, hMeet (hFind h 1) 1, ?_, ?_, inv_find XX_fr.frx hI (by decide)⟩
        · unfold f_X7_tells
          rw [f_below, Option.bind_some, if_pos (lt4 hk).1, if_neg n1_0, f_below, Option.bind_some, if_pos e2, if_neg n1_0, if_pos (inb_nI hk (by decide)), nI_clamp (by omega), if_pos q1]
          exact fm_find h (by decide) rfl
        · unfold f_X8_tells
          rw [f_isPlace, Option.bind_some, if_pos (lt4 hk).2, if_neg n1_0, f_in, Option.bind_some, if_pos (lt4'.mpr e2), if_neg n1_0, if_pos (inb_nI hk (by decide)), nI_clamp (by omega), hFind_r (by omega) (by omega), if_pos q2]
          exact fm_meet _ (by decide) rfl
      · have hQ := (pl_there (x.2.1 k hk) q2).1
        refine ⟨1, wr h 0 13 (pfV (QF h k) x2), wr (wr h 0 13 (pfV (QF h k) x2)) 147 2 (pfV (QF h k) x2), ?_, ?_, inv_tell XX_fr.frx hI⟩
        · unfold f_X7_tells
          rw [f_below, Option.bind_some, if_pos (lt4 hk).1, if_neg n1_0, f_below, Option.bind_some, if_pos e2, if_neg n1_0, if_pos (inb_nI hk (by decide)), nI_clamp (by omega), if_neg (by rw [q1]; decide), if_pos (inb_nI hk (by decide)), c_pf (x.2.1 k hk) q2]
          rfl
        · unfold f_X8_tells
          have qf : QF (wr h 0 13 (pfV (QF h k) x2)) k = QF h k := by unfold QF; rw [wr_row (by omega)]
          have := m_pf (h := wr h 0 13 (pfV (QF h k) x2)) (k := k) (by rw [qf]; exact hQ) hk x2 (lt4'.mpr e2)
          rw [qf] at this
          rw [f_isPlace, Option.bind_some, if_pos (lt4 hk).2, if_neg n1_0, f_in, Option.bind_some, if_pos (lt4'.mpr e2), if_neg n1_0, if_pos (inb_nI hk (by decide)), nI_clamp (by omega), wr_row (by omega), if_neg (by rw [q2]; decide), this]
          rfl
    · refine ⟨-1, h, h, ?_, ?_, hI⟩
      · unfold f_X7_tells
        rw [f_below, Option.bind_some, if_pos (lt4 hk).1, if_neg n1_0, f_below, Option.bind_some, if_neg e2]; rfl
      · unfold f_X8_tells
        rw [f_isPlace, Option.bind_some, if_pos (lt4 hk).2, if_neg n1_0, f_in, Option.bind_some, if_neg (fun z => e2 (lt4'.mp z))]; rfl
  · refine ⟨-1, h, h, ?_, ?_, hI⟩
    · unfold f_X7_tells
      rw [f_below, Option.bind_some, if_neg (not_lt4 hb).1]; rfl
    · unfold f_X8_tells
      rw [f_isPlace, Option.bind_some, if_neg (not_lt4 hb).2]; rfl
def ctV (Q : Nat → Int32) (y : Nat) : Int32 := 10 * Q (3 + 3 * y) + Q (4 + 3 * y)
theorem c_ct (x : PLX h k) (t : h.1 156 k = 1) {y : Nat} (hy : y < gn (QF h k) 0) : f_X3_sizeAndLean h (25 + 4 * k) (nI y) = some (ctV (QF h k) y) := by
  obtain ⟨hQ, q1, q2, q3, q⟩ := pl_there x t
  have h8 := hQ.1.2.1
  unfold f_X3_sizeAndLean ctV
  rw [q1, hQ.2.1, f_bel (by omega) (by omega), Option.bind_some, if_neg (bI_t (decide_eq_true hy)), if_pos (inb_nI (by omega) (by decide)), if_pos (inb_nI (by omega) (by decide)), nI_clamp (by omega), show 25 + 4 * k + 2 = 27 + 4 * k by omega, show 25 + 4 * k + 3 = 28 + 4 * k by omega, (q y hy).2.1, (q y hy).2.2]
theorem k3y (k a y : Nat) : nI (26 * k) + nI a + 3 * nI y = nI (26 * k + (a + 3 * y)) := by
  rw [nI_add, show (3 : Int32) = nI 3 from rfl, pk_mul, nI_add, Nat.add_assoc]
theorem m_ct (hk : k < 4) {y : Nat} (hy : y < 8) : f_X8_courseTells h (nI k) (nI y) = some (ctV (QF h k) y) := by
  unfold f_X8_courseTells ctV
  have e3 : (26 : Int32) * nI k + 3 + 3 * nI y = nI (26 * k + (3 + 3 * y)) := by rw [k26]; exact k3y k 3 y
  have e4 : (26 : Int32) * nI k + 4 + 3 * nI y = nI (26 * k + (4 + 3 * y)) := by rw [k26]; exact k3y k 4 y
  rw [e3, e4, if_pos (inb_nI (by omega) (by decide)), if_pos (inb_nI (by omega) (by decide)), nI_clamp (by omega), nI_clamp (by omega)]
  rfl
theorem st_course : ST_course INV := by
  intro h hI x1 x2
  have x := hI.2.2.2.2.2
  rcases place x1 4 (by decide) with ⟨k, hk, rfl⟩ | hb
  · rcases pl_cs (x.2.1 k hk) with ⟨q1, q2⟩ | ⟨q1, q2⟩
    · refine ⟨-3, hFind h 1, hMeet (hFind h 1) 1, ?_, ?_, inv_find XX_fr.frx hI (by decide)⟩
      · unfold f_X7_course
        rw [f_below, Option.bind_some, if_pos (lt4 hk).1, if_neg n1_0, if_pos (inb_nI hk (by decide)), nI_clamp (by omega), if_pos q1]
        exact fm_find h (by decide) rfl
      · unfold f_X8_course
        rw [f_isPlace, Option.bind_some, if_pos (lt4 hk).2, if_neg n1_0, if_pos (inb_nI hk (by decide)), nI_clamp (by omega), hFind_r (by omega) (by omega), if_pos q2]
        exact fm_meet _ (by decide) rfl
    · obtain ⟨hQ, p1, p2, p3, p⟩ := pl_there (x.2.1 k hk) q2
      have h8 := hQ.1.2.1
      have e0 : h.1 157 (26 * k) = nI (gn (QF h k) 0) := hQ.2.1
      rcases place x2 (gn (QF h k) 0) (by omega) with ⟨y, hy, rfl⟩ | hq
      · refine ⟨QF h k (2 + 3 * y), wr h 0 13 (ctV (QF h k) y), wr (wr h 0 13 (ctV (QF h k) y)) 147 2 (ctV (QF h k) y), ?_, ?_, inv_tell XX_fr.frx hI⟩
        · unfold f_X7_course
          rw [f_below, Option.bind_some, if_pos (lt4 hk).1, if_neg n1_0, if_pos (inb_nI hk (by decide)), nI_clamp (by omega), if_neg (by rw [q1]; decide), if_pos (inb_nI hk (by decide)), p1, hQ.2.1, f_below, Option.bind_some, if_pos (lt_n hy (by omega)), if_neg n1_0, if_pos (inb_nI hk (by decide)), c_ct (x.2.1 k hk) q2 hy, Option.bind_some, nm_eq, if_pos (inb_nI hk (by decide)), if_pos (inb_nI (by omega) (by decide)), nI_clamp (by omega), wr_row (by omega), show 25 + 4 * k + 1 = 26 + 4 * k by omega, (p y hy).1]
        · unfold f_X8_course
          have qf : QF (wr h 0 13 (ctV (QF h k) y)) k = QF h k := by unfold QF; rw [wr_row (by omega)]
          have ct := m_ct (h := wr h 0 13 (ctV (QF h k) y)) hk (y := y) (by omega)
          rw [qf] at ct
          rw [f_isPlace, Option.bind_some, if_pos (lt4 hk).2, if_neg n1_0, if_pos (inb_nI hk (by decide)), nI_clamp (by omega), wr_row (by omega), if_neg (by rw [q2]; decide), k26, if_pos (inb_nI (by omega) (by decide)), nI_clamp (by omega), wr_row (by omega), e0, f_in, Option.bind_some, if_pos ((in_pred (by omega)).mpr (lt_n hy (by omega))), if_neg n1_0, ct, Option.bind_some, show nI (26 * k) + 2 + 3 * nI y = nI (26 * k + (2 + 3 * y)) from k3y k 2 y, if_pos (inb_nI (by omega) (by decide)), nI_clamp (by omega)]
          rfl
      · refine ⟨-3, hFind h 2, hMeet (hFind h 2) 2, ?_, ?_, inv_find XX_fr.frx hI (by decide)⟩
        · unfold f_X7_course
          rw [f_below, Option.bind_some, if_pos (lt4 hk).1, if_neg n1_0, if_pos (inb_nI hk (by decide)), nI_clamp (by omega), if_neg (by rw [q1]; decide), if_pos (inb_nI hk (by decide)), p1, hQ.2.1, f_below, Option.bind_some, if_neg hq, if_pos rfl]
          exact fm_find h (by decide) rfl
        · unfold f_X8_course
          rw [f_isPlace, Option.bind_some, if_pos (lt4 hk).2, if_neg n1_0, if_pos (inb_nI hk (by decide)), nI_clamp (by omega), hFind_r (by omega) (by omega), if_neg (by rw [q2]; decide), k26, if_pos (inb_nI (by omega) (by decide)), nI_clamp (by omega), hFind_r (by omega) (by omega), e0, f_in, Option.bind_some, if_neg (fun z => hq ((in_pred (by omega)).mp z)), if_pos rfl]
          exact fm_meet _ (by decide) rfl
  · refine ⟨-1, h, h, ?_, ?_, hI⟩
    · unfold f_X7_course
      rw [f_below, Option.bind_some, if_neg (not_lt4 hb).1]; rfl
    · unfold f_X8_course
      rw [f_isPlace, Option.bind_some, if_neg (not_lt4 hb).2]; rfl
theorem grt (h : TT) (x y : Int32) : f_X8_greater h x y = some (imax x y) := by
  unfold f_X8_greater imax
  by_cases e : x < y
  · rw [if_pos e, if_pos (by rw [i32_le]; rw [i32_lt] at e; omega)]
  · rw [if_neg e]
    by_cases e2 : x ≤ y
    · rw [if_pos e2]
      congr 1
      rw [i32_eq]
      have a := i32_le.mp e2
      rw [i32_lt] at e
      omega
    · rw [if_neg e2]
theorem st_quarry : ST_quarry INV := by
  intro h hI x1
  have x := hI.2.2.2.2.2
  rcases place x1 4 (by decide) with ⟨k, hk, rfl⟩ | hb
  · rcases pl_cs (x.2.1 k hk) with ⟨q1, q2⟩ | ⟨q1, q2⟩
    · refine ⟨-3, hFind h 1, hMeet (hFind h 1) 1, ?_, ?_, inv_find XX_fr.frx hI (by decide)⟩
      · unfold f_X7_quarry
        rw [f_below, Option.bind_some, if_pos (lt4 hk).1, if_neg n1_0, if_pos (inb_nI hk (by decide)), nI_clamp (by omega), if_pos q1]
        exact fm_find h (by decide) rfl
      · unfold f_X8_quarry
        rw [f_isPlace, Option.bind_some, if_pos (lt4 hk).2, if_neg n1_0, if_pos (inb_nI hk (by decide)), nI_clamp (by omega), hFind_r (by omega) (by omega), if_pos q2]
        exact fm_meet _ (by decide) rfl
    · obtain ⟨hQ, p1, p2, p3, p⟩ := pl_there (x.2.1 k hk) q2
      have m1 := hQ.1.1
      have i8 : inb 0 8 = true := by decide
      refine ⟨QF h k 3 * QF h k 3 / 4, wr h 0 13 (imax 0 (nI (st (qz (QF h k)) (gn (QF h k) 0)) - QF h k 3 * QF h k 3 / 4)), wr (wr h 0 13 (imax 0 (nI (st (qz (QF h k)) (gn (QF h k) 0)) - QF h k 3 * QF h k 3 / 4))) 147 2 (imax 0 (nI (st (qz (QF h k)) (gn (QF h k) 0)) - QF h k 3 * QF h k 3 / 4)), ?_, ?_, inv_tell XX_fr.frx hI⟩
      · unfold f_X7_quarry
        rw [f_below, Option.bind_some, if_pos (lt4 hk).1, if_neg n1_0, if_pos (inb_nI hk (by decide)), nI_clamp (by omega), if_neg (by rw [q1]; decide), if_pos (inb_nI hk (by decide)), if_pos i8, if_pos (inb_nI hk (by decide)), if_pos i8, tn0, show 25 + 4 * k + 2 = 27 + 4 * k by omega, (p 0 (by omega)).2.1, nm_eq, if_pos (inb_nI hk (by decide)), p2, nm_eq]
      · unfold f_X8_quarry
        have qf : ∀ v, QF (wr h 0 13 v) k = QF h k := fun v => by unfold QF; rw [wr_row (by omega)]
        have pb := fun v => m_pB (h := wr h 0 13 v) (k := k) (by rw [qf]; exact hQ) hk
        rw [f_isPlace, Option.bind_some, if_pos (lt4 hk).2, if_neg n1_0, if_pos (inb_nI hk (by decide)), nI_clamp (by omega), wr_row (by omega), if_neg (by rw [q2]; decide), k26, show nI (26 * k) + 3 = nI (26 * k + 3) from nI_add _ 3, if_pos (inb_nI (by omega) (by decide)), nI_clamp (by omega), wr_row (by omega), nm_eq, nm_eq, pb, qf, Option.bind_some, grt, Option.bind_some]
        rfl
  · refine ⟨-1, h, h, ?_, ?_, hI⟩
    · unfold f_X7_quarry
      rw [f_below, Option.bind_some, if_neg (not_lt4 hb).1]; rfl
    · unfold f_X8_quarry
      rw [f_isPlace, Option.bind_some, if_neg (not_lt4 hb).2]; rfl
end INV
