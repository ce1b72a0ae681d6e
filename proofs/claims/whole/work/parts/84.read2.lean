/-! ===== the reader: snow ===== -/
def wLo (k : Nat) : Nat := if k = 0 ∨ k = 3 then 1 else 0
def wHi (k : Nat) : Nat := if k = 0 then 30 else if k = 2 then 40 else 9
def wLt (k : Nat) : Int32 := sv 0 k
def WOK (W : Nat → Int32) : Prop := ∀ k, k < 4 → W k = nI (gn W k) ∧ gn W k ≤ wHi k
section RD
variable {h g : TT} {t n p c q : Nat} {v x : Int32} {W A F S L Q T : Nat → Int32}
theorem WOK.up (h : WOK W) {k w : Nat} (hk : k < 4) (hw : w ≤ wHi k) : WOK (upd W k (nI w)) := by
  intro j hj
  have h9 : wHi k ≤ 40 := by unfold wHi; split <;> (try split) <;> omega
  unfold gn
  rw [upd_cases]
  by_cases e : j = k
  · rw [if_pos e, nI_clamp (by omega), e]
    exact ⟨rfl, hw⟩
  · rw [if_neg e]
    exact h j hj
theorem sv1 : ∀ k, k < 4 → sv 1 k = nI (wLo k) := by decide
theorem sv2 : ∀ k, k < 4 → sv 2 k = nI (wHi k) := by decide
theorem sv0 : sv 0 0 = 103 ∧ sv 0 1 = 114 ∧ sv 0 2 = 99 ∧ sv 0 3 = 119 := by decide
/-- an item that isn't a space, at place p < n: either a letter k, or none -/
theorem c_wth (H : TC h t T) (hn : n ≤ 80) (hp : p < n) : (∃ k, k < 4 ∧ T p = sv 0 k ∧ ∀ {c v W A F S L}, f_X4_readWorth (CS h t n p c v W A F S L) = f_X4_readWorth_25 (nI k) (CS h t n p c v W A F S L)) ∨ ((∀ k, k < 4 → ¬ T p = sv 0 k) ∧ ∀ {c v W A F S L}, f_X4_readWorth (CS h t n p c v W A F S L) = some (0, CS h t n p c v W A F S L)) := by
  have main : ∀ (d k : Nat), k + d = 4 → (∃ j, k ≤ j ∧ j < 4 ∧ T p = sv 0 j ∧ ∀ f, d < f → ∀ {c v W A F S L}, f_X4_readWorth_2 f (nI k) (CS h t n p c v W A F S L) = f_X4_readWorth_25 (nI j) (CS h t n p c v W A F S L)) ∨ ((∀ j, k ≤ j → j < 4 → ¬ T p = sv 0 j) ∧ ∀ f, d < f → ∀ {c v W A F S L}, f_X4_readWorth_2 f (nI k) (CS h t n p c v W A F S L) = some (0, CS h t n p c v W A F S L)) := by
    intro d
    induction d with
    | zero =>
      intro k hk
      obtain rfl : k = 4 := by omega
      refine Or.inr ⟨fun j _ _ => by omega, fun f hf {c v W A F S L} => ?_⟩
      obtain ⟨f, rfl⟩ : ∃ g, f = g + 1 := ⟨f - 1, by omega⟩
      rw [f_X4_readWorth_2, if_pos (show (4 : Int32) ≤ nI 4 by decide)]
      unfold f_X4_readWorth_25
      rw [if_neg (show ¬ nI 4 < 4 by decide)]
    | succ d ih =>
      intro k hk
      by_cases e : T p = sv 0 k
      · refine Or.inl ⟨k, by omega, by omega, e, fun f hf {c v W A F S L} => ?_⟩
        obtain ⟨f, rfl⟩ : ∃ g, f = g + 1 := ⟨f - 1, by omega⟩
        rw [f_X4_readWorth_2, if_neg (show ¬ (4 : Int32) ≤ nI k from nI_ge (b := 4) (by omega) (by omega)), if_pos (inb_nI (by omega) (by decide)), c_sign H hn (by omega), Option.bind_some, bC_lt hp, nI_clamp (by omega), if_pos e.symm]
      · rcases ih (k + 1) (by omega) with ⟨j, a1, a2, a3, a4⟩ | ⟨a1, a2⟩
        · refine Or.inl ⟨j, by omega, a2, a3, fun f hf {c v W A F S L} => ?_⟩
          obtain ⟨f, rfl⟩ : ∃ g, f = g + 1 := ⟨f - 1, by omega⟩
          rw [f_X4_readWorth_2, if_neg (show ¬ (4 : Int32) ≤ nI k from nI_ge (b := 4) (by omega) (by omega)), if_pos (inb_nI (by omega) (by decide)), c_sign H hn (by omega), Option.bind_some, bC_lt hp, nI_clamp (by omega), if_neg (fun z => e z.symm), nI_1]
          exact a4 f (by omega)
        · refine Or.inr ⟨fun j h1 h2 => ?_, fun f hf {c v W A F S L} => ?_⟩
          · by_cases ej : j = k
            · rw [ej]; exact e
            · exact a1 j (by omega) h2
          · obtain ⟨f, rfl⟩ : ∃ g, f = g + 1 := ⟨f - 1, by omega⟩
            rw [f_X4_readWorth_2, if_neg (show ¬ (4 : Int32) ≤ nI k from nI_ge (b := 4) (by omega) (by omega)), if_pos (inb_nI (by omega) (by decide)), c_sign H hn (by omega), Option.bind_some, bC_lt hp, nI_clamp (by omega), if_neg (fun z => e z.symm), nI_1]
            exact a2 f (by omega)
  rcases main 4 0 (by omega) with ⟨j, -, a2, a3, a4⟩ | ⟨a1, a2⟩
  · exact Or.inl ⟨j, a2, a3, fun {c v W A F S L} => a4 KF (by decide)⟩
  · exact Or.inr ⟨fun k hk => a1 k (by omega) hk, fun {c v W A F S L} => a2 KF (by decide)⟩
/-- the reference's item -/
theorem m_item : (∀ k, k < 4 → f_X8_itemOf h (sv 0 k) = some (nI k)) ∧ ∀ y, (∀ k, k < 4 → ¬ y = sv 0 k) → f_X8_itemOf h y = some (-9) := by
  refine ⟨fun k hk => ?_, fun y e => ?_⟩
  · rcases (show k = 0 ∨ k = 1 ∨ k = 2 ∨ k = 3 by omega) with rfl | rfl | rfl | rfl <;> rfl
  · unfold f_X8_itemOf
    rw [if_neg (show ¬ y = 103 from e 0 (by omega)), if_neg (show ¬ y = 114 from e 1 (by omega)), if_neg (show ¬ y = 99 from e 2 (by omega)), if_neg (show ¬ y = 119 from e 3 (by omega))]
theorem m_snl {k40 : Int32 → TT → Option (Int32 × TT)} {k : Nat} (hk : k < 4) : (if nI k = 0 then f_X8_snowFault_125 k40 x (nI k) x h else (if nI k = (3 : Int32) then f_X8_snowFault_125 k40 x (nI k) x h else f_X8_snowFault_130 k40 x (nI k) (0 : Int32) x h)) = f_X8_snowFault_151 k40 x (nI k) (nI (wHi k)) (nI (wLo k)) x h := by
  rcases (show k = 0 ∨ k = 1 ∨ k = 2 ∨ k = 3 by omega) with rfl | rfl | rfl | rfl <;> rfl
theorem sp_ne : ∀ k, k < 4 → ¬ sv 0 k = 32 := by decide
theorem wHi_le (k : Nat) : wHi k ≤ 40 := by unfold wHi; split <;> (try split) <;> omega
theorem wLo_le (k : Nat) : wLo k ≤ 1 := by unfold wLo; split <;> omega
theorem m_snsp (G : TM g t n T) (hn : n ≤ 80) {f : Nat} (hp : p < n) (e : T p = 32) : f_X8_snowFault_40 (f + 1) (nI t) (MZ g p v c q W Q) = f_X8_snowFault_40 f (nI t) (MZ g (p + 1) v c q W Q) := by
  have := G.1
  rw [f_X8_snowFault_40, if_pos (inb_nI (by omega) (by decide)), nI_clamp (by omega), ms_row (by omega) (by omega) (by omega), G.2.1, ms_14, if_neg (nI_ge hp (by omega)), m_byte G hn (by omega), Option.bind_some, bM_lt hp, e, m_item.2 32 (by decide), Option.bind_some, Option.bind_some, if_pos rfl, nm_eq, nI_1, ms_p]
  rfl
theorem m_snsps (G : TM g t n T) (hn : n ≤ 80) {e : Nat} : ∀ (d p f : Nat), p + d = e → e ≤ n → (∀ i, p ≤ i → i < e → T i = 32) → f_X8_snowFault_40 (f + d) (nI t) (MZ g p v c q W Q) = f_X8_snowFault_40 f (nI t) (MZ g e v c q W Q) := by
  intro d
  induction d with
  | zero =>
    intro p f hp _ _
    rw [show p = e by omega, Nat.add_zero]
  | succ d ih =>
    intro p f hp h1 h2
    rw [show f + (d + 1) = f + d + 1 by omega, m_snsp G hn (by omega) (h2 p (by omega) (by omega))]
    exact ih (p + 1) f (by omega) h1 (fun i a b => h2 i (by omega) b)
/-- the whole text, read by both -/
theorem r_snow (H : TC h t T) (G : TM g t n T) (hn : n ≤ 80) : ∀ (d p c : Nat) (W V : Nat → Int32), n - p ≤ d → p ≤ n → c ≤ p → WOK W → (∀ k, k < 4 → V k = W k) → ∃ (r : Int32) (p' c' : Nat) (W' V' : Nat → Int32), WOK W' ∧ (∀ k, k < 4 → V' k = W' k) ∧ p' ≤ 90 ∧ (∀ (f x3 : Nat) (v : Int32) (A F S L : Nat → Int32) (o n1 : Nat), n - p < f → x3 ≤ p → ∃ v', f_X4_readSnow_32 o n1 f (nI x3) (CS h t n p c v W A F S L) = some (r, CS h t n p' c' v' W' A F S L)) ∧ ∀ (f : Nat) (v : Int32) (q : Nat) (Q : Nat → Int32), n - p < f → ∃ v', f_X8_snowFault_40 f (nI t) (MZ g p v c q V Q) = some (r, MZ g p' v' c' q V' Q) := by
  have t4 := G.1
  intro d
  induction d with
  | zero =>
    intro p c W V hd hp hc hW hV
    obtain rfl : p = n := by omega
    refine ⟨-9, p, c, W, V, hW, hV, by omega, fun f x3 v A F S L o n1 hf h3 => ⟨v, ?_⟩, fun f v q Q hf => ⟨v, ?_⟩⟩
    · obtain ⟨f, rfl⟩ : ∃ g, f = g + 1 := ⟨f - 1, by omega⟩
      obtain ⟨e, a1, a2, -, -, a5⟩ := c_more H hn hp
      obtain rfl : e = p := by omega
      rw [f_X4_readSnow_32, if_neg (show ¬ (80 : Int32) < nI x3 from nI_nlt (a := 80) (by omega) (by omega)), a5, Option.bind_some, decide_eq_false (by omega), if_pos bIf]
    · obtain ⟨f, rfl⟩ : ∃ g, f = g + 1 := ⟨f - 1, by omega⟩
      rw [f_X8_snowFault_40, if_pos (inb_nI (by omega) (by decide)), nI_clamp (by omega), ms_row (by omega) (by omega) (by omega), G.2.1, ms_14, if_pos (nI_le (Nat.le_refl _) (by omega))]
  | succ d ih =>
    intro p c W V hd hp hc hW hV
    obtain ⟨e, a1, a2, a3, a4, a5⟩ := c_more H hn hp
    have C : ∀ (f x3 : Nat) (v : Int32) (A F S L : Nat → Int32) (o n1 : Nat), x3 ≤ p → f_X4_readSnow_32 o n1 (f + 1) (nI x3) (CS h t n p c v W A F S L) = (if bI (decide (e < n)) = 0 then some ((-9 : Int32), CS h t n e c v W A F S L) else (f_X4_readWorth (CS h t n e c v W A F S L)).bind fun q8 => (if q8.1 = 0 then some (q8.2.1 127 5, q8.2) else f_X4_readSnow_32 o n1 f (nI (x3 + 1)) q8.2)) := fun f x3 v A F S L o n1 h3 => by
      rw [f_X4_readSnow_32, if_neg (show ¬ (80 : Int32) < nI x3 from nI_nlt (a := 80) (by omega) (by omega)), a5, Option.bind_some, nI_1]
    have M : ∀ (f : Nat) (v : Int32) (q : Nat) (Q : Nat → Int32), n - p < f → ∃ f', f = f' + 1 + (e - p) ∧ n - e < f' + 1 ∧ f_X8_snowFault_40 f (nI t) (MZ g p v c q V Q) = f_X8_snowFault_40 (f' + 1) (nI t) (MZ g e v c q V Q) := fun f v q Q hf => by
      refine ⟨f - (e - p) - 1, by omega, by omega, ?_⟩
      rw [← m_snsps G hn (e - p) p (f - (e - p) - 1 + 1) (by omega) a2 a3, show f - (e - p) - 1 + 1 + (e - p) = f by omega]
    rcases a4 with a4 | ⟨a4, a6⟩
    · refine ⟨-9, e, c, W, V, hW, hV, by omega, fun f x3 v A F S L o n1 hf h3 => ⟨v, ?_⟩, fun f v q Q hf => ⟨v, ?_⟩⟩
      · obtain ⟨f, rfl⟩ : ∃ g, f = g + 1 := ⟨f - 1, by omega⟩
        rw [C f x3 v A F S L o n1 h3, decide_eq_false (by omega), if_pos bIf]
      · obtain ⟨f', -, -, m⟩ := M f v q Q hf
        rw [m, f_X8_snowFault_40, if_pos (inb_nI (by omega) (by decide)), nI_clamp (by omega), ms_row (by omega) (by omega) (by omega), G.2.1, ms_14, if_pos (nI_le (by omega) (by omega))]
    · rcases c_wth H hn a4 with ⟨k, hk, b1, b2⟩ | ⟨b1, b2⟩
      · obtain ⟨m, w, n1, n2, n3, n4⟩ := r_num H G hn (p := e + 1) (by omega)
        have h40 := wHi_le k
        have h1 := wLo_le k
        have CW : ∀ {c v W A F S L}, f_X4_readWorth (CS h t n e c v W A F S L) = if m = 0 then some (0, CS h t n (e + 1) c v W A F S L) else if wLo k ≤ w ∧ w ≤ wHi k then some (1, CS h t n (e + 1 + m) (c + 1) (nI w) (upd W k (nI w)) A F S L) else some (0, CS h t n (e + 1 + m) c (nI w) W A F S L) := fun {c v W A F S L} => by
          rw [b2]
          unfold f_X4_readWorth_25
          rw [if_pos (show nI k < 4 from nI_lt (b := 4) hk (by decide)), cs_5, nI_1, nm_eq, cs_p, n3]
          by_cases m0 : m = 0
          · rw [if_pos m0, if_pos m0, Option.bind_some, if_pos rfl]
          · rw [if_neg m0, if_neg m0, Option.bind_some, if_neg n1_0, if_pos (inb_nI hk (by decide)), nI_clamp (by omega), sv1 k hk, sv2 k hk, cs_6]
            by_cases l1 : wLo k ≤ w
            · rw [if_neg (nI_nlt l1 (by omega)), if_pos (inb_nI hk (by decide))]
              by_cases l2 : w ≤ wHi k
              · rw [if_pos (nI_le l2 (by omega)), if_pos (inb_nI hk (by decide)), if_pos ⟨l1, l2⟩, nm_eq, cs_W, nm_eq, cs_2, nI_1, cs_c]
              · rw [if_neg (nI_ge (by omega) (by omega)), if_neg (fun z => l2 z.2)]
            · rw [if_pos (nI_lt (by omega) (by omega)), if_neg (fun z => l1 z.1)]
        have MW : ∀ {f : Nat} {v : Int32} {q c : Nat} {W Q : Nat → Int32}, f_X8_snowFault_40 (f + 1) (nI t) (MZ g e v c q W Q) = if m = 0 then some (nI (e + 1), MZ g (e + 1) (nI w) c q W Q) else if wLo k ≤ w ∧ w ≤ wHi k then f_X8_snowFault_40 f (nI t) (MZ g (e + 1 + m) (nI w) (c + 1) q (upd W k (nI w)) Q) else some (nI (e + 1 + m), MZ g (e + 1 + m) (nI w) c q W Q) := fun {f v q c W Q} => by
          rw [f_X8_snowFault_40, if_pos (inb_nI (by omega) (by decide)), nI_clamp (by omega), ms_row (by omega) (by omega) (by omega), G.2.1, ms_14, if_neg (nI_ge a4 (by omega)), m_byte G hn (by omega), Option.bind_some, bM_lt a4, b1, m_item.1 k hk, Option.bind_some, Option.bind_some, if_neg (sp_ne k hk), if_neg (nI_m9 (by omega)), nm_eq, nI_1, ms_p, m_snl hk]
          unfold f_X8_snowFault_151
          rw [n4, Option.bind_some]
          by_cases m0 : m = 0
          · rw [if_pos m0, if_pos m0, if_pos rfl, m0]
            rfl
          · rw [if_neg m0, if_neg m0]
            by_cases l : wLo k ≤ w ∧ w ≤ wHi k
            · rw [if_pos l, if_pos (show nI (wLo k) ≤ nI w ∧ nI w ≤ nI (wHi k) from ⟨nI_le l.1 (by omega), nI_le l.2 (by omega)⟩), if_neg n1_0, if_pos (inb_nI hk (by decide)), nI_clamp (by omega), nm_eq, ms_15, ms_wW, nm_eq, ms_16, nI_1, ms_c]
              rfl
            · rw [if_neg l, if_neg (show ¬ (nI (wLo k) ≤ nI w ∧ nI w ≤ nI (wHi k)) from fun z => l ⟨(nI_leI (by omega) (by omega)).mp z.1, (nI_leI (by omega) (by omega)).mp z.2⟩), if_pos rfl, ms_14]
        by_cases m0 : m = 0
        · refine ⟨nI (e + 1), e + 1, c, W, V, hW, hV, by omega, fun f x3 v A F S L o n1 hf h3 => ⟨v, ?_⟩, fun f v q Q hf => ⟨nI w, ?_⟩⟩
          · obtain ⟨f, rfl⟩ : ∃ g, f = g + 1 := ⟨f - 1, by omega⟩
            rw [C f x3 v A F S L o n1 h3, decide_eq_true a4, if_neg (bI_t rfl), CW, if_pos m0, Option.bind_some, if_pos rfl, cs_5]
          · obtain ⟨f', -, -, mm⟩ := M f v q Q hf
            rw [mm, MW, if_pos m0]
        · by_cases l : wLo k ≤ w ∧ w ≤ wHi k
          · obtain ⟨r, p', c', W', V', q1, q0, qp, q2, q3⟩ := ih (e + 1 + m) (c + 1) (upd W k (nI w)) (upd V k (nI w)) (by omega) (by omega) (by omega) (hW.up hk l.2) (fun j hj => by rw [upd_cases, upd_cases, hV j hj])
            refine ⟨r, p', c', W', V', q1, q0, qp, fun f x3 v A F S L o n1 hf h3 => ?_, fun f v q Q hf => ?_⟩
            · obtain ⟨f, rfl⟩ : ∃ g, f = g + 1 := ⟨f - 1, by omega⟩
              rw [C f x3 v A F S L o n1 h3, decide_eq_true a4, if_neg (bI_t rfl), CW, if_neg m0, if_pos l, Option.bind_some, if_neg n1_0]
              exact q2 f (x3 + 1) (nI w) A F S L o n1 (by omega) (by omega)
            · obtain ⟨f', -, f2, mm⟩ := M f v q Q hf
              rw [mm, MW, if_neg m0, if_pos l]
              exact q3 f' (nI w) q Q (by omega)
          · refine ⟨nI (e + 1 + m), e + 1 + m, c, W, V, hW, hV, by omega, fun f x3 v A F S L o n1 hf h3 => ⟨nI w, ?_⟩, fun f v q Q hf => ⟨nI w, ?_⟩⟩
            · obtain ⟨f, rfl⟩ : ∃ g, f = g + 1 := ⟨f - 1, by omega⟩
              rw [C f x3 v A F S L o n1 h3, decide_eq_true a4, if_neg (bI_t rfl), CW, if_neg m0, if_neg l, Option.bind_some, if_pos rfl, cs_5]
            · obtain ⟨f', -, -, mm⟩ := M f v q Q hf
              rw [mm, MW, if_neg m0, if_neg l]
      · refine ⟨nI e, e, c, W, V, hW, hV, by omega, fun f x3 v A F S L o n1 hf h3 => ⟨v, ?_⟩, fun f v q Q hf => ⟨v, ?_⟩⟩
        · obtain ⟨f, rfl⟩ : ∃ g, f = g + 1 := ⟨f - 1, by omega⟩
          rw [C f x3 v A F S L o n1 h3, decide_eq_true a4, if_neg (bI_t rfl), b2, Option.bind_some, if_pos rfl, cs_5]
        · obtain ⟨f', -, -, mm⟩ := M f v q Q hf
          rw [mm, f_X8_snowFault_40, if_pos (inb_nI (by omega) (by decide)), nI_clamp (by omega), ms_row (by omega) (by omega) (by omega), G.2.1, ms_14, if_neg (nI_ge a4 (by omega)), m_byte G hn (by omega), Option.bind_some, bM_lt a4, m_item.2 _ b1, Option.bind_some, Option.bind_some, if_neg a6, if_pos rfl]
end RD
