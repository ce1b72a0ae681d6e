/-! ===== halls: the tables' beginnings ===== -/
def up4 (g : Nat) : Nat := if g = 0 then 0 else 1000000
theorem up4_le (g : Nat) : up4 g ≤ 1000000 := by unfold up4; split <;> omega
def clF (h : TT) : TT := wr (wrow h 144 (fun j => if j < 41 then 1000000 else h.1 144 j)) 144 0 0
theorem c_clF (h : TT) : f_X1_clear h = some (clF h) := by
  unfold f_X1_clear
  rw [if_pos (by decide), show 140 + (4 : Int32).toNatClampNeg = 144 by rw [show (4 : Int32).toNatClampNeg = 4 from nI_clamp (n := 4) (by decide)], fill_0 (by decide), Option.bind_some, if_pos (by decide), if_pos (by decide), nm_eq, tn0]
  rfl
theorem clF_g {h : TT} {g : Nat} (hg : g ≤ 40) : (clF h).1 144 g = nI (up4 g) := by
  unfold clF up4
  rw [wr_1]
  by_cases z : g = 0
  · rw [if_pos ⟨rfl, z⟩, if_pos z]; rfl
  · rw [if_neg (fun q => z q.2), if_neg z, wrow_1, if_pos rfl, if_pos (by omega)]; rfl
theorem clF_r {h : TT} {a : Nat} (ha : a ≠ 144) : (clF h).1 a = h.1 a := by
  unfold clF
  rw [wr_row ha, wrow_row ha]
def ofF (h : TT) (k e b : Nat) (up : Nat → Nat) : TT := wrow (wr h 145 k (nI e)) (140 + k) (fun j => if 0 ≤ j ∧ j < 41 then nI (fwR e b up j) else (wr h 145 k (nI e)).1 (140 + k) j)
theorem c_ofF {h : TT} {k e b : Nat} {up : Nat → Nat} (hk : k < 4) (he : e ≤ 1000) (hb : b ≤ 60) (hu : ∀ g, g ≤ 40 → up g ≤ 1000000) (h1 : ∀ g, g ≤ 40 → h.1 (140 + (k + 1)) g = nI (up g)) : f_X1_offer h (nI k) (nI e) (nI b) = some (ofF h k e b up) := by
  unfold f_X1_offer
  rw [f_below, Option.bind_some, if_pos (lt4 hk).1, if_neg n1_0, if_pos (inb_nI hk (by decide)), nI_clamp (by omega), nm_eq, show (0 : Int32) = nI 0 from rfl]
  exact c_of19 hk he hb hu 41 KF 0 _ (by omega) (by decide) (fun g hg => by rw [wr_row (by omega)]; exact h1 g hg) (fun g hg => by omega)
theorem ofF_g {h : TT} {k e b : Nat} {up : Nat → Nat} {g : Nat} (hg : g ≤ 40) : (ofF h k e b up).1 (140 + k) g = nI (fwR e b up g) := by
  unfold ofF
  rw [wrow_1, if_pos rfl, if_pos (by omega)]
theorem ofF_e {h : TT} {k e b : Nat} {up : Nat → Nat} (hk : k < 4) : (ofF h k e b up).1 145 k = nI e := by
  unfold ofF
  rw [wrow_row (by omega), wr_1, if_pos ⟨rfl, rfl⟩]
theorem ofF_r {h : TT} {k e b : Nat} {up : Nat → Nat} {a j : Nat} (ha : a ≠ 140 + k) (hj : ¬ (a = 145 ∧ j = k)) : (ofF h k e b up).1 a j = h.1 a j := by
  unfold ofF
  rw [wrow_row ha, wr_1, if_neg hj]
theorem m_108 {x3 : Int32} {G : Nat} (hG : G ≤ 40) : ∀ (d f i : Nat) (s : TT), i + d = G + 1 → d < f → f_X8_halls_108 f (nI G) x3 (nI i) s = f_X8_halls_146 KF (nI G) x3 3 (wrow s 162 (fun j => if 164 + i ≤ j ∧ j ≤ 164 + G then nI (up4 (j - 164)) else s.1 162 j)) := by
  intro d
  induction d with
  | zero =>
    intro f i s hi hf
    obtain ⟨f, rfl⟩ : ∃ g, f = g + 1 := ⟨f - 1, by omega⟩
    rw [f_X8_halls_108, if_pos (nI_lt (by omega) (by omega))]
    congr 1
    refine Prod.ext (funext fun a => funext fun j => ?_) rfl
    rw [wrow_1]
    by_cases z : a = 162
    · rw [if_pos z, if_neg (by omega), z]
    · rw [if_neg z]
  | succ d ih =>
    intro f i s hi hf
    obtain ⟨f, rfl⟩ : ∃ g, f = g + 1 := ⟨f - 1, by omega⟩
    have go : f_X8_halls_136 (f_X8_halls_108 f) (nI G) x3 (nI i) (nI (up4 i)) (nI (164 + i)) s = f_X8_halls_146 KF (nI G) x3 3 (wrow s 162 (fun j => if 164 + i ≤ j ∧ j ≤ 164 + G then nI (up4 (j - 164)) else s.1 162 j)) := by
      unfold f_X8_halls_136
      rw [if_pos (inb_nI (by omega) (by decide)), nI_clamp (by omega), nm_eq, nI_1, ih f (i + 1) _ (by omega) (by omega)]
      congr 1
      refine Prod.ext (funext fun a => funext fun j => ?_) rfl
      rw [wrow_1, wrow_1]
      by_cases z : a = 162
      · rw [if_pos z, if_pos z, wr_1]
        by_cases y : 164 + (i + 1) ≤ j ∧ j ≤ 164 + G
        · rw [if_pos y, if_pos (by omega)]
        · rw [if_neg y]
          by_cases y2 : j = 164 + i
          · rw [if_pos ⟨rfl, y2⟩, if_pos (by omega), show j - 164 = i by omega]
          · rw [if_neg (fun q => y2 q.2), if_neg (by omega)]
      · rw [if_neg z, if_neg z, wr_1, if_neg (fun q => z q.1)]
    rw [f_X8_halls_108, if_neg (nI_nlt (by omega) (by omega)), show (164 : Int32) + nI i = nI (164 + i) from nI_add 164 i]
    by_cases z : i = 0
    · rw [if_pos (show nI i = 0 by rw [z]; rfl), show (0 : Int32) = nI (up4 i) by rw [z]; rfl]
      exact go
    · rw [if_neg (fun q => z ((nI_z (by omega)).mp q)), show (1000000 : Int32) = nI (up4 i) by unfold up4; rw [if_neg z]; rfl]
      exact go
