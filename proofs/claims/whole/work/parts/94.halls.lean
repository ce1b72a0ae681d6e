/-! ===== halls: the table of the fewest blocks ===== -/
def fwS (e b : Nat) (up : Nat → Nat) : Nat → Nat → Nat
  | 0, s => up s
  | f + 1, s => if s = 0 ∨ e = 0 then up s else min (up s) (b + fwS e b up f (s - e))
theorem fwS_fu {e b : Nat} {up : Nat → Nat} : ∀ (f f' s : Nat), s ≤ f → s ≤ f' → fwS e b up f s = fwS e b up f' s := by
  intro f
  induction f with
  | zero =>
    intro f' s h1 _
    obtain rfl : s = 0 := by omega
    cases f' with
    | zero => rfl
    | succ f' => rw [fwS, fwS, if_pos (Or.inl rfl)]
  | succ f ih =>
    intro f' s h1 h2
    cases f' with
    | zero =>
      obtain rfl : s = 0 := by omega
      rw [fwS, fwS, if_pos (Or.inl rfl)]
    | succ f' =>
      rw [fwS, fwS]
      by_cases z : s = 0 ∨ e = 0
      · rw [if_pos z, if_pos z]
      · rw [if_neg z, if_neg z, ih f' (s - e) (by omega) (by omega)]
/-- the fewest blocks for s guests with one plan more -/
def fwR (e b : Nat) (up : Nat → Nat) (s : Nat) : Nat := fwS e b up s s
theorem fwR_0 {e b : Nat} {up : Nat → Nat} {s : Nat} (z : s = 0 ∨ e = 0) : fwR e b up s = up s := by
  unfold fwR
  cases s with
  | zero => rfl
  | succ s => rw [fwS, if_pos z]
theorem fwR_1 {e b : Nat} {up : Nat → Nat} {s : Nat} (z : ¬ (s = 0 ∨ e = 0)) : fwR e b up s = min (up s) (b + fwR e b up (s - e)) := by
  unfold fwR
  cases s with
  | zero => exact absurd (Or.inl rfl) z
  | succ s => rw [fwS, if_neg z, fwS_fu s (s + 1 - e) (s + 1 - e) (by omega) (by omega)]
theorem fwR_le {e b : Nat} {up : Nat → Nat} {s : Nat} : fwR e b up s ≤ up s := by
  by_cases z : s = 0 ∨ e = 0
  · rw [fwR_0 z]
    exact Nat.le_refl _
  · rw [fwR_1 z]
    exact Nat.min_le_left _ _
theorem imin_nI {a b : Nat} (ha : a < 2 ^ 31) (hb : b < 2 ^ 31) : imin (nI a) (nI b) = nI (min a b) := by
  unfold imin
  by_cases z : b < a
  · rw [if_pos (nI_lt z ha), Nat.min_eq_right (by omega)]
  · rw [if_neg (nI_nlt (by omega) hb), Nat.min_eq_left (by omega)]
theorem imax_nI {a b : Nat} (ha : a < 2 ^ 30) (hb : b < 2 ^ 30) : imax 0 (nI a - nI b) = nI (a - b) := by
  unfold imax
  by_cases z : b ≤ a
  · rw [pk_sub z]
    by_cases y : a - b = 0
    · rw [y, if_neg (by decide)]; rfl
    · rw [if_pos (show (0 : Int32) < nI (a - b) from nI_lt (a := 0) (by omega) (by omega))]
  · rw [if_neg (fun q => by have c := i32_lt.mp q; rw [pk_sub_toInt ha hb] at c; have e0 : (0 : Int32).toInt = 0 := rfl; omega), show a - b = 0 by omega]
    rfl
theorem c_of19 {k e b : Nat} {up : Nat → Nat} (hk : k < 4) (he : e ≤ 1000) (hb : b ≤ 60) (hu : ∀ g, g ≤ 40 → up g ≤ 1000000) : ∀ (d f i : Nat) (s : TT), i + d = 41 → d < f → (∀ g, g ≤ 40 → s.1 (140 + (k + 1)) g = nI (up g)) → (∀ g, g < i → s.1 (140 + k) g = nI (fwR e b up g)) → f_X1_offer_19 f (nI k) (nI e) (nI b) (nI i) s = some (wrow s (140 + k) (fun j => if i ≤ j ∧ j < 41 then nI (fwR e b up j) else s.1 (140 + k) j)) := by
  intro d
  induction d with
  | zero =>
    intro f i s hi hf h1 h2
    obtain ⟨f, rfl⟩ : ∃ g, f = g + 1 := ⟨f - 1, by omega⟩
    obtain rfl : i = 41 := by omega
    rw [f_X1_offer_19, if_pos (show (40 : Int32) < nI 41 by decide)]
    congr 1
    refine Prod.ext (funext fun a => funext fun j => ?_) rfl
    rw [wrow_1]
    by_cases z : a = 140 + k
    · rw [if_pos z, if_neg (by omega), z]
    · rw [if_neg z]
  | succ d ih =>
    intro f i s hi hf h1 h2
    obtain ⟨f, rfl⟩ : ∃ g, f = g + 1 := ⟨f - 1, by omega⟩
    have u1 := hu i (by omega)
    have go : f_X1_offer_72 (f_X1_offer_19 f) (nI k) (nI e) (nI b) (nI i) (nI (fwR e b up i)) s = some (wrow s (140 + k) (fun j => if i ≤ j ∧ j < 41 then nI (fwR e b up j) else s.1 (140 + k) j)) := by
      unfold f_X1_offer_72
      rw [if_pos (inb_nI (by omega) (by decide)), if_pos (inb_nI (by omega) (by decide)), nI_clamp (by omega), nI_clamp (by omega), nm_eq, nI_1, ih f (i + 1) _ (by omega) (by omega) (fun g hg => by rw [wr_row (by omega)]; exact h1 g hg) (fun g hg => by
        rw [wr_1]
        by_cases z : g = i
        · rw [if_pos ⟨rfl, z⟩, z]
        · rw [if_neg (fun q => z q.2)]
          exact h2 g (by omega))]
      congr 1
      refine Prod.ext (funext fun a => funext fun j => ?_) rfl
      rw [wrow_1, wrow_1]
      by_cases z : a = 140 + k
      · rw [if_pos z, if_pos z, wr_1]
        by_cases y : i + 1 ≤ j ∧ j < 41
        · rw [if_pos y, if_pos (by omega)]
        · rw [if_neg y]
          by_cases y2 : j = i
          · rw [if_pos ⟨rfl, y2⟩, if_pos (by omega), y2]
          · rw [if_neg (fun q => y2 q.2), if_neg (by omega)]
      · rw [if_neg z, if_neg z, wr_1, if_neg (fun q => z q.1)]
    rw [f_X1_offer_19, if_neg (show ¬ (40 : Int32) < nI i from nI_nlt (a := 40) (by omega) (by omega)), nI_1 k, if_pos (inb_nI (by omega) (by decide)), if_pos (inb_nI (by omega) (by decide)), nm_eq, nI_clamp (show k + 1 < 2 ^ 31 by omega), nI_clamp (show i < 2 ^ 31 by omega), h1 i (by omega)]
    by_cases z0 : i = 0
    · rw [if_pos (show nI i ≤ 0 by rw [z0]; decide), ← fwR_0 (e := e) (b := b) (up := up) (Or.inl z0)]
      exact go
    · rw [if_neg (show ¬ nI i ≤ 0 from nI_nle (by omega) (by omega))]
      by_cases z1 : e = 0
      · rw [if_pos (show nI e ≤ 0 by rw [z1]; decide), ← fwR_0 (e := e) (b := b) (up := up) (Or.inr z1)]
        exact go
      · have u2 : fwR e b up (i - e) ≤ 1000000 := Nat.le_trans fwR_le (hu _ (by omega))
        rw [if_neg (show ¬ nI e ≤ 0 from nI_nle (by omega) (by omega)), if_pos (inb_nI (by omega) (by decide)), imax_nI (by omega) (by omega), if_pos (inb_nI (by omega) (by decide)), nI_clamp (show k < 2 ^ 31 by omega), nI_clamp (by omega), h2 (i - e) (by omega), nI_add, imin_nI (by omega) (by omega), nm_eq, ← fwR_1 (fun q => by omega)]
        exact go
