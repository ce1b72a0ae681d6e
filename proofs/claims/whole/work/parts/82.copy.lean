/-! ===== copy ===== -/
theorem c_hp {h : TT} {n : Nat} (hn : n ≤ 60) {x m : Int32} (hm : 0 ≤ m) : (∃ i k, i + k ≤ n ∧ x = nI i ∧ m = nI k ∧ f_X7_hasPlaces h (nI n) x m = some 1 ∧ ¬ x < 0 ∧ ¬ 0 < lg_cmp (x.toInt64 + m.toInt64) (nI n).toInt64) ∨ (f_X7_hasPlaces h (nI n) x m = some 0 ∧ (x < 0 ∨ (¬ x < 0 ∧ 0 < lg_cmp (x.toInt64 + m.toInt64) (nI n).toInt64))) := by
  have x1 := Int32.toInt_lt x
  have x2 := Int32.le_toInt x
  have m1 := Int32.toInt_lt m
  have m0 : 0 ≤ m.toInt := i32_le.mp hm
  have N : (nI n).toInt = n := nI_toInt (by omega)
  have S : (x.toInt64 + m.toInt64).toInt = x.toInt + m.toInt := by
    rw [Int64.toInt_add, Int32.toInt_toInt64, Int32.toInt_toInt64]
    exact Int.bmod_eq_of_le (by omega) (by omega)
  have C : 0 < lg_cmp (x.toInt64 + m.toInt64) (nI n).toInt64 ↔ (n : Int) < x.toInt + m.toInt := by
    rw [lg_cmp_gt, Int64.lt_iff_toInt_lt, S, Int32.toInt_toInt64, N]
  unfold f_X7_hasPlaces
  by_cases c0 : x < 0
  · exact Or.inr ⟨if_pos c0, Or.inl c0⟩
  · have c0' : 0 ≤ x.toInt := by
      have := mt i32_lt.mpr c0
      have e0 : (0 : Int32).toInt = 0 := rfl
      omega
    rw [if_neg c0]
    by_cases c1 : nI n < m
    · have c1' := i32_lt.mp c1
      exact Or.inr ⟨if_pos c1, Or.inr ⟨c0, C.mpr (by omega)⟩⟩
    · have c1' : m.toInt ≤ n := by
        have := mt i32_lt.mpr c1
        omega
      have D : (nI n - m).toInt = n - m.toInt := by
        rw [Int32.toInt_sub, N]
        exact Int.bmod_eq_of_le (by omega) (by omega)
      rw [if_neg c1]
      by_cases c2 : nI n - m < x
      · have c2' := i32_lt.mp c2
        exact Or.inr ⟨if_pos c2, Or.inr ⟨c0, C.mpr (by omega)⟩⟩
      · have c2' : x.toInt + m.toInt ≤ n := by
          have := mt i32_lt.mpr c2
          omega
        refine Or.inl ⟨x.toInt.toNat, m.toInt.toNat, by omega, ?_, ?_, if_neg c2, c0, fun z => by have := C.mp z; omega⟩
        · refine i32_eq.mpr ?_
          rw [nI_toInt (by omega)]
          omega
        · refine i32_eq.mpr ?_
          rw [nI_toInt (by omega)]
          omega
theorem m_cp136 {k b m : Nat} (hk : k < 6) (hb : b + m ≤ 60) : ∀ (d f i : Nat) (h : TT), i + d = m → d < f → f_X8_copy_136 f (nI k) (nI b) (nI m) (nI i) h = some (1, wrow h 150 (fun j => if 60 * k + b + i ≤ j ∧ j < 60 * k + b + m then h.1 151 (j - (60 * k + b)) else h.1 150 j)) := by
  intro d
  induction d with
  | zero =>
    intro f i h hi hf
    obtain ⟨f, rfl⟩ : ∃ g, f = g + 1 := ⟨f - 1, by omega⟩
    obtain rfl : i = m := by omega
    rw [f_X8_copy_136, if_pos (nI_le (Nat.le_refl _) (by omega))]
    congr 2
    refine Prod.ext (funext fun b => funext fun j => ?_) rfl
    rw [wrow_1]
    by_cases e : b = 150
    · subst e
      rw [if_pos rfl, if_neg (by omega)]
    · rw [if_neg e]
  | succ d ih =>
    intro f i h hi hf
    obtain ⟨f, rfl⟩ : ∃ g, f = g + 1 := ⟨f - 1, by omega⟩
    rw [f_X8_copy_136, if_neg (nI_ge (by omega) (by omega)), if_pos (inb_nI (by omega) (by decide)), k60, nI_add, if_pos (inb_nI (by omega) (by decide)), nI_clamp (by omega), nI_clamp (by omega), nm_eq, nI_1, ih f (i + 1) _ (by omega) (by omega)]
    congr 2
    refine Prod.ext (funext fun a => funext fun j => ?_) rfl
    rw [wrow_1, wrow_1]
    by_cases e : a = 150
    · subst e
      rw [if_pos rfl, if_pos rfl, wr_row (by omega), wr_1]
      by_cases e1 : 60 * k + b + (i + 1) ≤ j ∧ j < 60 * k + b + m
      · rw [if_pos e1, if_pos (by omega)]
      · rw [if_neg e1]
        by_cases e2 : j = 60 * k + b + i
        · rw [if_pos ⟨rfl, e2⟩, if_pos (by omega), show j - (60 * k + b) = i by omega]
        · rw [if_neg (fun q => e2 q.2), if_neg (by omega)]
    · rw [if_neg e, if_neg e, wr_1, if_neg (fun q => e q.1)]
theorem m_cp104 {p a m : Nat} {x3 x4 : Int32} (hp : p < 6) (ha : a + m ≤ 60) : ∀ (d f i : Nat) (h : TT), i + d = m → d < f → f_X8_copy_104 f (nI p) (nI a) x3 x4 (nI m) (nI i) h = f_X8_copy_136 KF x3 x4 (nI m) (nI 0) (wrow h 151 (fun j => if i ≤ j ∧ j < m then h.1 150 (60 * p + (a + j)) else h.1 151 j)) := by
  intro d
  induction d with
  | zero =>
    intro f i h hi hf
    obtain ⟨f, rfl⟩ : ∃ g, f = g + 1 := ⟨f - 1, by omega⟩
    obtain rfl : i = m := by omega
    rw [f_X8_copy_104, if_pos (nI_le (Nat.le_refl _) (by omega)), show (0 : Int32) = nI 0 from rfl]
    congr 1
    refine Prod.ext (funext fun b => funext fun j => ?_) rfl
    rw [wrow_1]
    by_cases e : b = 151
    · subst e
      rw [if_pos rfl, if_neg (by omega)]
    · rw [if_neg e]
  | succ d ih =>
    intro f i h hi hf
    obtain ⟨f, rfl⟩ : ∃ g, f = g + 1 := ⟨f - 1, by omega⟩
    rw [f_X8_copy_104, if_neg (nI_ge (by omega) (by omega))]
    unfold f_X8_rowAt
    rw [nI_add, k60, if_pos (inb_nI (by omega) (by decide)), Option.bind_some, if_pos (inb_nI (by omega) (by decide)), nI_clamp (by omega), nI_clamp (by omega), nm_eq, nI_1, ih f (i + 1) _ (by omega) (by omega)]
    congr 1
    refine Prod.ext (funext fun b => funext fun j => ?_) rfl
    rw [wrow_1, wrow_1]
    by_cases e : b = 151
    · subst e
      rw [if_pos rfl, if_pos rfl, wr_row (by omega), wr_1]
      by_cases e1 : i + 1 ≤ j ∧ j < m
      · rw [if_pos e1, if_pos (by omega)]
      · rw [if_neg e1]
        by_cases e2 : j = i
        · rw [if_pos ⟨rfl, e2⟩, if_pos (by omega), e2]
        · rw [if_neg (fun q => e2 q.2), if_neg (by omega)]
    · rw [if_neg e, if_neg e, wr_1, if_neg (fun q => e q.1)]
def cpM (h : TT) (p a k b m : Nat) : TT := wrow (wrow h 151 (fun j => if 0 ≤ j ∧ j < m then h.1 150 (60 * p + (a + j)) else h.1 151 j)) 150 (fun j => if 60 * k + b + 0 ≤ j ∧ j < 60 * k + b + m then (wrow h 151 (fun j => if 0 ≤ j ∧ j < m then h.1 150 (60 * p + (a + j)) else h.1 151 j)).1 151 (j - (60 * k + b)) else h.1 150 j)
theorem m_cp {h : TT} {p a k b m : Nat} (hp : p < 6) (hk : k < 6) (ha : a + m ≤ 60) (hb : b + m ≤ 60) : f_X8_copy_104 KF (nI p) (nI a) (nI k) (nI b) (nI m) (nI 0) h = some (1, cpM h p a k b m) := by
  rw [m_cp104 hp ha m KF 0 h (by omega) (by have := KF_ge; omega), m_cp136 hk hb m KF 0 _ (by omega) (by have := KF_ge; omega)]
  rfl
theorem inv_cp {X : TT → Prop} (hX : FrX X) {h : TT} (hI : InvX X h) {p a k b m : Nat} (hp : p < 6) (hk : k < 6) (ha : a + m ≤ 60) (hb : b + m ≤ 60) : InvX X (cpM (wrow h (2 + k) (va_cpy (h.1 (2 + p)) (h.1 (2 + k)) a b m)) p a k b m) := by
  obtain ⟨h1, h2, h3, h4, h5, h6⟩ := hI
  have fr : ∀ i, i ≠ 2 + k → i ≠ 150 → i ≠ 151 → (cpM (wrow h (2 + k) (va_cpy (h.1 (2 + p)) (h.1 (2 + k)) a b m)) p a k b m).1 i = h.1 i := fun i e1 e2 e3 => by
    unfold cpM
    rw [wrow_row e2, wrow_row e3, wrow_row e1]
  refine ⟨?_, ⟨?_, fun j hj => ?_⟩, h3, fun q hq => ?_, R_txt_fr h5 (fun i hi => fr i (by omega) (by omega) (by omega)), hX _ _ h6 (fun i hi => ?_)⟩
  · unfold R_told
    rw [fr 0 (by omega) (by omega) (by omega), fr 147 (by omega) (by omega) (by omega)]
    exact h1
  · rw [fr 0 (by omega) (by omega) (by omega), fr 147 (by omega) (by omega) (by omega)]
    exact h2.1
  · rw [fr 146 (by omega) (by omega) (by omega), fr 148 (by omega) (by omega) (by omega)]
    exact h2.2 j hj
  · obtain ⟨a1, a2, a3⟩ := h4 q hq
    rw [fr 8 (by omega) (by omega) (by omega), fr 149 (by omega) (by omega) (by omega)]
    refine ⟨a1, a2, fun j hj => ?_⟩
    unfold cpM
    rw [wrow_1 _ 150 _ 150, if_pos rfl, wrow_row (show 2 + q ≠ 150 by omega), wrow_row (show 2 + q ≠ 151 by omega), wrow_1, wrow_1, wrow_row (show 150 ≠ 2 + k by omega), if_pos rfl]
    by_cases e : q = k
    · subst e
      rw [if_pos rfl]
      unfold va_cpy
      by_cases e1 : b ≤ j ∧ j < b + m
      · rw [if_pos e1, if_pos (by omega), if_pos (by omega), show 60 * q + j - (60 * q + b) = j - b by omega]
        exact (h4 p hp).2.2 _ (by omega)
      · rw [if_neg e1, if_neg (by omega)]
        exact a3 j hj
    · rw [if_neg (by omega), if_neg (by omega)]
      exact a3 j hj
  · have := SX_no hi
    exact fr i (by omega) (by omega) (by omega)
theorem st_copy {X : TT → Prop} (hX : FrX X) : ST_copy (InvX X) := by
  intro h hI x1 x2 x3 x4 x5
  rcases place x1 6 (by decide) with ⟨p, hp, rfl⟩ | hb
  · rcases place x3 6 (by decide) with ⟨k, hk, rfl⟩ | hb
    · have cc : f_X7_copy h (nI p) x2 (nI k) x4 x5 = (if 0 ≤ x5 then (if h.1 8 p < 0 then f_X7_copy_49 h else (if 0 ≤ h.1 8 k then (f_X7_hasPlaces h (h.1 8 p) x2 x5).bind fun r12 => (if r12 = 0 then f_X7_copy_86 h else (f_X7_hasPlaces h (h.1 8 k) x4 x5).bind fun r16 => (if r16 = 0 then f_X7_copy_86 h else if cpok x2 x4 x5 60 60 = true then nm (wrow h (2 + k) (va_cpy (h.1 (2 + p)) (h.1 (2 + k)) x2.toNatClampNeg x4.toNatClampNeg x5.toNatClampNeg)) fun h21 => some ((1 : Int32), h21) else none)) else f_X7_copy_49 h)) else (f_X7_found h (5 : Int32)).bind fun q22 => some (q22.1, q22.2)) := by
        unfold f_X7_copy
        rw [f_below, Option.bind_some, if_pos (lt6 hp).1, if_neg n1_0, f_below, Option.bind_some, if_pos (lt6 hk).1, if_neg n1_0, n6 hp, n6 hk]
        simp only [inb_nI hp (show 6 < 2 ^ 31 by decide), inb_nI hk (show 6 < 2 ^ 31 by decide), if_true]
      have mm : ∀ g : TT, f_X8_copy g (nI p) x2 (nI k) x4 x5 = (if 0 ≤ x5 then (if g.1 149 p < 0 then f_X8_copy_45 g else (if 0 ≤ g.1 149 k then (if x2 < 0 then f_X8_copy_95 g else (if x4 < 0 then f_X8_copy_95 g else (if 0 < lg_cmp (x2.toInt64 + x5.toInt64) (g.1 149 p).toInt64 then f_X8_copy_95 g else (if lg_cmp (x4.toInt64 + x5.toInt64) (g.1 149 k).toInt64 ≤ 0 then f_X8_copy_104 KF (nI p) x2 (nI k) x4 x5 (0 : Int32) g else f_X8_copy_95 g)))) else f_X8_copy_45 g)) else (f_X8_meets g (5 : Int32)).bind fun q26 => some (q26.1, q26.2)) := fun g => by
        unfold f_X8_copy
        rw [f_isRow, Option.bind_some, if_pos (lt6 hp).2, if_neg n1_0, f_isRow, Option.bind_some, if_pos (lt6 hk).2, if_neg n1_0, n6 hp, n6 hk]
        simp only [inb_nI hp (show 6 < 2 ^ 31 by decide), inb_nI hk (show 6 < 2 ^ 31 by decide), if_true]
      by_cases c5 : 0 ≤ x5
      · have no : ∀ z : Nat, z < 6 → f_X7_copy h (nI p) x2 (nI k) x4 x5 = (f_X7_found h (nI z)).bind (fun q => some (q.1, q.2)) → f_X8_copy (hFind h z) (nI p) x2 (nI k) x4 x5 = (f_X8_meets (hFind h z) (nI z)).bind (fun q => some (q.1, q.2)) → ∃ (r : Int32) (h1 : TT) (h2 : TT), f_X7_copy h (nI p) x2 (nI k) x4 x5 = some (r, h1) ∧ f_X8_copy h1 (nI p) x2 (nI k) x4 x5 = some (r, h2) ∧ InvX X h2 := fun z hz e1 e2 => by
          refine ⟨-3, hFind h z, hMeet (hFind h z) z, ?_, ?_, inv_find hX hI hz⟩
          · rw [e1, f_found h hz]; rfl
          · rw [e2, f_meets _ hz]; rfl
        rcases rcase hI.2.2.2.1 hp with ⟨a1, a2⟩ | ⟨n, hn, a1, a2⟩
        · refine no 1 (by decide) ?_ ?_
          · rw [cc, if_pos c5, a1, if_pos (by decide)]; rfl
          · rw [mm, if_pos c5, hFind_r (by omega) (by omega), a2, if_pos (by decide)]; rfl
        · rcases rcase hI.2.2.2.1 hk with ⟨b1, b2⟩ | ⟨o, ho, b1, b2⟩
          · refine no 1 (by decide) ?_ ?_
            · rw [cc, if_pos c5, a1, if_neg (nI_pos (by omega)), b1, if_neg (by decide)]; rfl
            · rw [mm, if_pos c5, hFind_r (by omega) (by omega), a2, if_neg (nI_pos (by omega)), b2, if_neg (by decide)]; rfl
          · have l2 : ∀ x y : Int64, ¬ 0 < lg_cmp x y → lg_cmp x y ≤ 0 := fun x y z => by
              rw [lg_cmp_gt, Int64.lt_iff_toInt_lt] at z
              rw [lg_cmp_le, Int64.le_iff_toInt_le]
              omega
            have l3 : ∀ x y : Int64, 0 < lg_cmp x y → ¬ lg_cmp x y ≤ 0 := fun x y z => by
              rw [lg_cmp_gt, Int64.lt_iff_toInt_lt] at z
              rw [lg_cmp_le, Int64.le_iff_toInt_le]
              omega
            rcases c_hp (h := h) hn (x := x2) c5 with ⟨i, m, him, rfl, rfl, q1, q2, q3⟩ | ⟨q1, q2⟩
            · rcases c_hp (h := h) ho (x := x4) c5 with ⟨j, m', hjm, rfl, em, s1, s2, s3⟩ | ⟨s1, s2⟩
              · have hjm' : j + m ≤ o := by
                  have := (nI_eq (by omega) (by omega)).mp em
                  omega
                refine ⟨1, wrow h (2 + k) (va_cpy (h.1 (2 + p)) (h.1 (2 + k)) i j m), cpM (wrow h (2 + k) (va_cpy (h.1 (2 + p)) (h.1 (2 + k)) i j m)) p i k j m, ?_, ?_, inv_cp hX hI hp hk (by omega) (by omega)⟩
                · rw [cc, if_pos c5, a1, if_neg (nI_pos (by omega)), b1, if_pos (nI_pos' (by omega)), q1, Option.bind_some, if_neg n1_0, s1, Option.bind_some, if_neg n1_0]
                  unfold cpok
                  rw [nI_clamp (by omega), nI_clamp (by omega), nI_clamp (by omega), decide_eq_true (nI_pos' (n := i) (by omega)), decide_eq_true (nI_pos' (n := j) (by omega)), decide_eq_true (nI_pos' (n := m) (by omega)), decide_eq_true (show i + m ≤ 60 by omega), decide_eq_true (show j + m ≤ 60 by omega), if_pos (show (true && true && true && true && true) = true from rfl)]
                  rfl
                · rw [mm, if_pos c5, wrow_row (by omega), a2, if_neg (nI_pos (by omega)), b2, if_pos (nI_pos' (by omega)), if_neg q2, if_neg s2, if_neg q3, if_pos (l2 _ _ s3), show (0 : Int32) = nI 0 from rfl]
                  exact m_cp hp hk (by omega) (by omega)
              · refine no 2 (by decide) ?_ ?_
                · rw [cc, if_pos c5, a1, if_neg (nI_pos (by omega)), b1, if_pos (nI_pos' (by omega)), q1, Option.bind_some, if_neg n1_0, s1, Option.bind_some, if_pos rfl]; rfl
                · rw [mm, if_pos c5, hFind_r (by omega) (by omega), a2, if_neg (nI_pos (by omega)), b2, if_pos (nI_pos' (by omega)), if_neg q2]
                  rcases s2 with s2 | ⟨s2, s3⟩
                  · rw [if_pos s2]; rfl
                  · rw [if_neg s2, if_neg q3, if_neg (l3 _ _ s3)]; rfl
            · refine no 2 (by decide) ?_ ?_
              · rw [cc, if_pos c5, a1, if_neg (nI_pos (by omega)), b1, if_pos (nI_pos' (by omega)), q1, Option.bind_some, if_pos rfl]; rfl
              · rw [mm, if_pos c5, hFind_r (by omega) (by omega), a2, if_neg (nI_pos (by omega)), b2, if_pos (nI_pos' (by omega))]
                rcases q2 with q2 | ⟨q2, q3⟩
                · rw [if_pos q2]; rfl
                · rw [if_neg q2, if_pos q3]
                  by_cases x4n : x4 < 0
                  · rw [if_pos x4n]; rfl
                  · rw [if_neg x4n]; rfl
      · refine ⟨-3, hFind h 5, hMeet (hFind h 5) 5, ?_, ?_, inv_find hX hI (by decide)⟩
        · rw [cc, if_neg c5]
          exact fm_find h (by decide) rfl
        · rw [mm, if_neg c5]
          exact fm_meet _ (by decide) rfl
    · refine ⟨-1, h, h, ?_, ?_, hI⟩
      · unfold f_X7_copy
        rw [f_below, Option.bind_some, if_pos (lt6 hp).1, if_neg n1_0, f_below, Option.bind_some, if_neg (not_lt6 hb).1, if_pos rfl]
      · unfold f_X8_copy
        rw [f_isRow, Option.bind_some, if_pos (lt6 hp).2, if_neg n1_0, f_isRow, Option.bind_some, if_neg (not_lt6 hb).2, if_pos rfl]
  · refine ⟨-1, h, h, ?_, ?_, hI⟩
    · unfold f_X7_copy
      rw [f_below, Option.bind_some, if_neg (not_lt6 hb).1, if_pos rfl]
    · unfold f_X8_copy
      rw [f_isRow, Option.bind_some, if_neg (not_lt6 hb).2, if_pos rfl]
