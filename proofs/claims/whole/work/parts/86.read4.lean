/-! ===== the reader: courses and the whole plan ===== -/
section RD
variable {h g : TT} {t n p c q m e : Nat} {v x y fo : Int32} {W A F S L Q T : Nat → Int32}
theorem c_addC (R : PR m q A F S L Q) (hm : m < 8) {w d : Nat} : f_X3_addCourse (CS h t n p c v W A F S L) 130 fo (nI w) (nI d) = some (CS h t n p c v W (upd (upd A 1 (nI (m + 1))) 2 (nI (q + w))) (upd F m fo) (upd S m (nI w)) (upd L m (nI d))) := by
  obtain ⟨r1, r2, r3, r4, r5, r6, r7, r8, r9, r10⟩ := R
  have i8 : inb (nI m) 8 = true := inb_nI hm (by decide)
  have cm : (nI m).toNatClampNeg = m := nI_clamp (by omega)
  unfold f_X3_addCourse
  rw [cs_A, r2, if_pos (show nI m < 8 from nI_lt (b := 8) hm (by decide)), if_pos i8, cm, nm_eq, cs_wF, cs_A, r2, if_pos i8, cm, nm_eq, cs_wS, cs_A, r2, if_pos i8, cm, nm_eq, cs_wL, nm_eq, cs_A, r2, nI_1, cs_wA, nm_eq, cs_A, upd_cases, if_neg (by decide), r4, nI_add, cs_wA]
theorem m_193 (R : PR m q A F S L Q) (hm : m < 8) {w d : Nat} : f_X8_readsCourse_193 (nI w) (nI (2 + 3 * m)) fo (nI (2 + 3 * m)) (MZ g p (nI d) c q W Q) = some (1, MZ g p (nI d) c (q + w) W (upd (upd (upd (upd Q (2 + 3 * m) fo) (2 + 3 * m + 1) (nI w)) (2 + 3 * m + 2) (nI d)) 0 (nI (m + 1)))) := by
  obtain ⟨r1, r2, r3, r4, r5, r6, r7, r8, r9, r10⟩ := R
  unfold f_X8_readsCourse_193
  rw [if_pos (inb_nI (by omega) (by decide)), nI_clamp (by omega), nm_eq, ms_wQ, nI_1, if_pos (inb_nI (by omega) (by decide)), nI_clamp (by omega), nm_eq, ms_wQ, show nI (2 + 3 * m) + 2 = nI (2 + 3 * m + 2) from nI_add _ 2, if_pos (inb_nI (by omega) (by decide)), nI_clamp (by omega), nm_eq, ms_15, ms_wQ, if_pos (show inb 0 26 = true by decide), if_pos (show inb 0 26 = true by decide), nm_eq, tn0, ms_Q, upd_cases, if_neg (by omega), upd_cases, if_neg (by omega), upd_cases, if_neg (by omega), r7, nI_1, ms_wQ, nm_eq, ms_17, nI_add, ms_q]
theorem r_c19 (H : TC h t T) (G : TM g t n T) (hn : n ≤ 80) (he : e < n) (hy : y = 114 ∨ y = 115) (R : PR m q A F S L Q) : ∃ (ok : Bool) (p' m' q' : Nat) (A' F' S' L' Q' : Nat → Int32), PR m' q' A' F' S' L' Q' ∧ (p' ≤ 90 ∧ (ok = true → e < p' ∧ p' ≤ n)) ∧ (∀ c v W, ∃ v', f_X4_readCourse_19 y (CS h t n e c v W A F S L) = some (bI ok, CS h t n p' c v' W A' F' S' L')) ∧ ∀ c v W, ∃ v', f_X8_readsCourse_88 (nI t) y (MZ g e v c q W Q) = some (bI ok, MZ g p' v' c q' W Q') := by
  have R0 := R
  obtain ⟨r1, r2, r3, r4, r5, r6, r7, r8, r9, r10⟩ := R0
  have no : ∀ p', p' ≤ 90 → (∀ c v W, ∃ v', f_X4_readCourse_19 y (CS h t n e c v W A F S L) = some (0, CS h t n p' c v' W A F S L)) → (∀ c v W, ∃ v', f_X8_readsCourse_88 (nI t) y (MZ g e v c q W Q) = some (0, MZ g p' v' c q W Q)) → ∃ (ok : Bool) (p' m' q' : Nat) (A' F' S' L' Q' : Nat → Int32), PR m' q' A' F' S' L' Q' ∧ (p' ≤ 90 ∧ (ok = true → e < p' ∧ p' ≤ n)) ∧ (∀ c v W, ∃ v', f_X4_readCourse_19 y (CS h t n e c v W A F S L) = some (bI ok, CS h t n p' c v' W A' F' S' L')) ∧ ∀ c v W, ∃ v', f_X8_readsCourse_88 (nI t) y (MZ g e v c q W Q) = some (bI ok, MZ g p' v' c q' W Q') := fun p' hp' a b => ⟨false, p', m, q, A, F, S, L, Q, R, ⟨hp', fun z => absurd z (by decide)⟩, a, b⟩
  by_cases m8 : m = 8
  · refine no e (by omega) (fun c v W => ⟨v, ?_⟩) (fun c v W => ⟨v, ?_⟩)
    · unfold f_X4_readCourse_19
      rw [cs_A, r2, if_neg (show ¬ nI m < 8 by rw [m8]; decide)]
    · unfold f_X8_readsCourse_88
      rw [if_pos (show inb 0 26 = true by decide), ms_Q, tn0, r7, if_pos (show nI m = 8 by rw [m8]; rfl)]
  · obtain ⟨k, w, n1, n2, n3, n4⟩ := r_num H G hn (p := e + 1) (by omega)
    have C : ∀ c v W, f_X4_readCourse_19 y (CS h t n e c v W A F S L) = (if k = 0 then some ((0 : Int32), CS h t n (e + 1) c v W A F S L) else some (1, CS h t n (e + 1 + k) c (nI w) W A F S L)).bind fun q5 => (if q5.1 = 0 then some ((0 : Int32), q5.2) else (if (q5.2.1 127 6) < (1 : Int32) then some ((0 : Int32), q5.2) else (if (12 : Int32) < (q5.2.1 127 6) then some ((0 : Int32), q5.2) else (if ((q5.2.1 130 2) + (q5.2.1 127 6)) ≤ (60 : Int32) then (f_X4_readSign q5.2 (58 : Int32)).bind fun q10 => (if q10.1 = 0 then some ((0 : Int32), q10.2) else (f_X4_isFigure q10.2).bind fun r12 => (if r12 = 0 then some ((0 : Int32), q10.2) else (if y = (114 : Int32) then f_X4_readCourse_121 (1 : Int32) q10.2 else f_X4_readCourse_121 (2 : Int32) q10.2))) else some ((0 : Int32), q5.2))))) := fun c v W => by
      unfold f_X4_readCourse_19
      rw [cs_A, r2, if_pos (show nI m < 8 from nI_lt (b := 8) (by omega) (by decide)), nm_eq, cs_5, nI_1, cs_p, n3]
    have M : ∀ c v W, f_X8_readsCourse_88 (nI t) y (MZ g e v c q W Q) = (if (if k = 0 then (0 : Int32) else if 1 ≤ nI w ∧ nI w ≤ 12 then 1 else 0) = 0 then some ((0 : Int32), MZ g (e + 1 + k) (nI w) c q W Q) else (if nI (q + w) ≤ (60 : Int32) then (f_X8_sign (MZ g (e + 1 + k) (nI w) c q W Q) (nI t) (58 : Int32)).bind fun q21 => (if q21.1 = 0 then some ((0 : Int32), q21.2) else (f_X8_figure q21.2 (nI t) (0 : Int32)).bind fun q23 => (if q23.1 = 0 then some ((0 : Int32), q23.2) else if inb (0 : Int32) 26 = true then nm ((2 : Int32) + ((3 : Int32) * (q23.2.1 159 (0 : Int32).toNatClampNeg))) fun y26 => (if y = (114 : Int32) then f_X8_readsCourse_193 (nI w) y26 (1 : Int32) y26 q23.2 else f_X8_readsCourse_193 (nI w) y26 (2 : Int32) y26 q23.2) else none)) else some ((0 : Int32), MZ g (e + 1 + k) (nI w) c q W Q))) := fun c v W => by
      unfold f_X8_readsCourse_88
      rw [if_pos (show inb 0 26 = true by decide), ms_Q, tn0, r7, if_neg (fun z : nI m = 8 => m8 ((nI_eq (by omega) (by decide)).mp (show nI m = nI 8 from z))), nm_eq, ms_14, nI_1, ms_p, n4, Option.bind_some, ms_17, ms_15, nI_add, nm_eq]
    rcases n1 with k0 | ⟨k0, kn⟩
    · refine no (e + 1) (by omega) (fun c v W => ⟨v, ?_⟩) (fun c v W => ⟨nI w, ?_⟩)
      · rw [C, if_pos k0, Option.bind_some, if_pos rfl]
      · rw [M, if_pos k0, if_pos rfl, k0]
    · by_cases w1 : 1 ≤ w ∧ w ≤ 12
      · have M1 : (if k = 0 then (0 : Int32) else if 1 ≤ nI w ∧ nI w ≤ 12 then 1 else 0) = 1 := by
          rw [if_neg k0, if_pos (show 1 ≤ nI w ∧ nI w ≤ 12 from ⟨nI_le (a := 1) w1.1 (by omega), nI_le (b := 12) w1.2 (by omega)⟩)]
        by_cases q60 : q + w ≤ 60
        · have C2 : ∀ c v W, f_X4_readCourse_19 y (CS h t n e c v W A F S L) = (if bC T n (e + 1 + k) = 58 then some ((1 : Int32), CS h t n (e + 1 + k + 1) c (nI w) W A F S L) else some (0, CS h t n (e + 1 + k) c (nI w) W A F S L)).bind fun q10 => (if q10.1 = 0 then some ((0 : Int32), q10.2) else (f_X4_isFigure q10.2).bind fun r12 => (if r12 = 0 then some ((0 : Int32), q10.2) else (if y = (114 : Int32) then f_X4_readCourse_121 (1 : Int32) q10.2 else f_X4_readCourse_121 (2 : Int32) q10.2))) := fun c v W => by
            rw [C, if_neg k0, Option.bind_some, if_neg n1_0, cs_6, if_neg (show ¬ nI w < 1 from nI_nlt (b := 1) w1.1 (by omega)), if_neg (show ¬ 12 < nI w from nI_nlt (a := 12) w1.2 (by omega)), cs_A, r4, nI_add, if_pos (show nI (q + w) ≤ 60 from nI_le (b := 60) q60 (by omega)), c_rs H hn (by omega)]
          have M2 : ∀ c v W, f_X8_readsCourse_88 (nI t) y (MZ g e v c q W Q) = (if bM T n (e + 1 + k) = 58 then some ((1 : Int32), MZ g (e + 1 + k + 1) (nI w) c q W Q) else some (0, MZ g (e + 1 + k) (nI w) c q W Q)).bind fun q21 => (if q21.1 = 0 then some ((0 : Int32), q21.2) else (f_X8_figure q21.2 (nI t) (0 : Int32)).bind fun q23 => (if q23.1 = 0 then some ((0 : Int32), q23.2) else if inb (0 : Int32) 26 = true then nm ((2 : Int32) + ((3 : Int32) * (q23.2.1 159 (0 : Int32).toNatClampNeg))) fun y26 => (if y = (114 : Int32) then f_X8_readsCourse_193 (nI w) y26 (1 : Int32) y26 q23.2 else f_X8_readsCourse_193 (nI w) y26 (2 : Int32) y26 q23.2) else none)) := fun c v W => by
            rw [M, M1, if_neg n1_0, if_pos (show nI (q + w) ≤ 60 from nI_le (b := 60) q60 (by omega)), m_sg G hn (by omega)]
          rcases sgx T n (e + 1 + k) with ⟨s1, s2, s3⟩ | ⟨s2, s3⟩
          · rcases fgx T n (e + 1 + k + 1) with ⟨d, hd, f1, f2⟩ | ⟨f1, f2⟩
            · obtain ⟨fo, hfo⟩ : ∃ fo : Int32, fo = if y = 114 then 1 else 2 := ⟨_, rfl⟩
              refine ⟨true, e + 1 + k + 1 + 1, m + 1, q + w, _, _, _, _, _, R.add (fo := fo) (d := d) (by omega) w1.1 w1.2 q60 hd, ⟨by omega, fun _ => ⟨by omega, by omega⟩⟩, fun c v W => ⟨nI w, ?_⟩, fun c v W => ⟨nI d, ?_⟩⟩
              · rw [C2, if_pos s2, Option.bind_some, if_neg n1_0, (c_isF H hn (by omega)).1 (by rw [bC_lt f1, f2]; exact fg_nI hd), Option.bind_some, if_neg n1_0, show (if y = (114 : Int32) then f_X4_readCourse_121 (1 : Int32) (CS h t n (e + 1 + k + 1) c (nI w) W A F S L) else f_X4_readCourse_121 (2 : Int32) (CS h t n (e + 1 + k + 1) c (nI w) W A F S L)) = f_X4_readCourse_121 fo (CS h t n (e + 1 + k + 1) c (nI w) W A F S L) by rw [hfo]; split <;> rfl]
                unfold f_X4_readCourse_121
                rw [c_sign H hn (by omega), Option.bind_some, bC_lt f1, f2, d48 hd, cs_6, c_addC R (by omega), Option.bind_some, nm_eq, cs_5, nI_1, cs_p]
                rfl
              · rw [M2, if_pos s3, Option.bind_some, if_neg n1_0, show f_X8_figure (MZ g (e + 1 + k + 1) (nI w) c q W Q) (nI t) 0 = _ from m_fg1 (l := 0) G hn f1 hd (by omega) f2, if_pos (by omega), Option.bind_some, if_neg n1_0, if_pos (show inb 0 26 = true by decide), ms_Q, tn0, r7, show (2 : Int32) + 3 * nI m = nI (2 + 3 * m) by rw [show (3 : Int32) = nI 3 from rfl, show (2 : Int32) = nI 2 from rfl, pk_mul, nI_add], nm_eq, show (if y = (114 : Int32) then f_X8_readsCourse_193 (nI w) (nI (2 + 3 * m)) (1 : Int32) (nI (2 + 3 * m)) (MZ g (e + 1 + k + 1 + 1) (nI d) c q W Q) else f_X8_readsCourse_193 (nI w) (nI (2 + 3 * m)) (2 : Int32) (nI (2 + 3 * m)) (MZ g (e + 1 + k + 1 + 1) (nI d) c q W Q)) = f_X8_readsCourse_193 (nI w) (nI (2 + 3 * m)) fo (nI (2 + 3 * m)) (MZ g (e + 1 + k + 1 + 1) (nI d) c q W Q) by rw [hfo]; split <;> rfl, m_193 R (by omega)]
                rfl
            · refine no (e + 1 + k + 1) (by omega) (fun c v W => ⟨nI w, ?_⟩) (fun c v W => ⟨bM T n (e + 1 + k + 1) - 48, ?_⟩)
              · rw [C2, if_pos s2, Option.bind_some, if_neg n1_0, (c_isF H hn (by omega)).2 f1, Option.bind_some, if_pos rfl]
              · rw [M2, if_pos s3, Option.bind_some, if_neg n1_0, show f_X8_figure (MZ g (e + 1 + k + 1) (nI w) c q W Q) (nI t) 0 = _ from m_fg0 (l := 0) G hn (by omega) (by omega) f2, Option.bind_some, if_pos rfl]
          · refine no (e + 1 + k) (by omega) (fun c v W => ⟨nI w, ?_⟩) (fun c v W => ⟨nI w, ?_⟩)
            · rw [C2, if_neg s2, Option.bind_some, if_pos rfl]
            · rw [M2, if_neg s3, Option.bind_some, if_pos rfl]
        · refine no (e + 1 + k) (by omega) (fun c v W => ⟨nI w, ?_⟩) (fun c v W => ⟨nI w, ?_⟩)
          · rw [C, if_neg k0, Option.bind_some, if_neg n1_0, cs_6, if_neg (show ¬ nI w < 1 from nI_nlt (b := 1) w1.1 (by omega)), if_neg (show ¬ 12 < nI w from nI_nlt (a := 12) w1.2 (by omega)), cs_A, r4, nI_add, if_neg (show ¬ nI (q + w) ≤ 60 from nI_ge (a := 60) (by omega) (by omega))]
          · rw [M, M1, if_neg n1_0, if_neg (show ¬ nI (q + w) ≤ 60 from nI_ge (a := 60) (by omega) (by omega))]
      · refine no (e + 1 + k) (by omega) (fun c v W => ⟨nI w, ?_⟩) (fun c v W => ⟨nI w, ?_⟩)
        · rw [C, if_neg k0, Option.bind_some, if_neg n1_0, cs_6]
          by_cases z1 : w < 1
          · rw [if_pos (show nI w < 1 from nI_lt (b := 1) z1 (by omega))]
          · rw [if_neg (show ¬ nI w < 1 from nI_nlt (b := 1) (by omega) (by omega)), if_pos (show 12 < nI w from nI_lt (a := 12) (by omega) (by omega))]
        · rw [M, if_neg k0, if_neg (show ¬ (1 ≤ nI w ∧ nI w ≤ 12) from fun z => w1 ⟨(nI_leI (a := 1) (by omega) (by omega)).mp z.1, (nI_leI (b := 12) (by omega) (by omega)).mp z.2⟩), if_pos rfl]
theorem r_item (H : TC h t T) (G : TM g t n T) (hn : n ≤ 80) (he : e < n) (R : PR m q A F S L Q) : ITEM h g t n e (fun s => if T e = 109 then f_X4_readMinutes s else f_X4_readCourse s) q A F S L Q := by
  by_cases e9 : T e = 109
  · have q := r_min H G hn he e9 R
    unfold ITEM at q ⊢
    simp only [if_pos e9]
    exact q
  · by_cases ey : T e = 114 ∨ T e = 115
    · obtain ⟨ok, p', m', q', A', F', S', L', Q', a1, a2, a3, a4⟩ := r_c19 H G hn he ey R
      refine ⟨ok, p', m', q', A', F', S', L', Q', a1, a2, fun c v W => ?_, fun c v W => ?_⟩
      · obtain ⟨v', z⟩ := a3 c v W
        refine ⟨v', ?_⟩
        show (if T e = 109 then _ else _) = _
        rw [if_neg e9]
        unfold f_X4_readCourse
        rw [c_sign H hn (by omega), Option.bind_some, bC_lt he, ← z]
        rcases ey with ey | ey
        · rw [if_pos ey]
        · rw [if_neg (by rw [ey]; decide), if_pos ey]
      · obtain ⟨v', z⟩ := a4 c v W
        refine ⟨v', ?_⟩
        unfold f_X8_readsCourse
        rw [ms_14, m_byte G hn (by omega), Option.bind_some, bM_lt he, if_neg e9, ← z]
        rcases ey with ey | ey
        · rw [if_pos ey]
        · rw [if_neg (by rw [ey]; decide), if_pos ey]
    · refine ⟨false, e, m, q, A, F, S, L, Q, R, ⟨by omega, fun z => absurd z (by decide)⟩, fun c v W => ⟨v, ?_⟩, fun c v W => ⟨v, ?_⟩⟩
      · show (if T e = 109 then _ else _) = _
        rw [if_neg e9]
        unfold f_X4_readCourse
        rw [c_sign H hn (by omega), Option.bind_some, bC_lt he, if_neg (fun z => ey (Or.inl z)), if_neg (fun z => ey (Or.inr z))]
        rfl
      · unfold f_X8_readsCourse
        rw [ms_14, m_byte G hn (by omega), Option.bind_some, bM_lt he, if_neg e9, if_neg (fun z => ey (Or.inl z)), if_neg (fun z => ey (Or.inr z))]
        rfl
theorem m_plsps (G : TM g t n T) (hn : n ≤ 80) {e : Nat} : ∀ (d p f : Nat), p + d = e → e ≤ n → (∀ i, p ≤ i → i < e → T i = 32) → f_X8_planFault_24 (f + d) (nI t) (MZ g p v c q W Q) = f_X8_planFault_24 f (nI t) (MZ g e v c q W Q) := by
  have := G.1
  intro d
  induction d with
  | zero =>
    intro p f hp _ _
    rw [show p = e by omega, Nat.add_zero]
  | succ d ih =>
    intro p f hp h1 h2
    rw [show f + (d + 1) = f + d + 1 by omega, f_X8_planFault_24, if_pos (inb_nI (by omega) (by decide)), nI_clamp (by omega), ms_row (by omega) (by omega) (by omega), G.2.1, ms_14, if_neg (nI_ge (by omega) (by omega)), m_byte G hn (by omega), Option.bind_some, bM_lt (by omega), h2 p (by omega) (by omega), if_pos rfl, nm_eq, nI_1, ms_p]
    exact ih (p + 1) f (by omega) h1 (fun i a b => h2 i (by omega) b)
theorem r_plan (H : TC h t T) (G : TM g t n T) (hn : n ≤ 80) : ∀ (d p m q : Nat) (A F S L Q : Nat → Int32), n - p ≤ d → p ≤ n → PR m q A F S L Q → ∃ (r : Int32) (p' m' q' : Nat) (A' F' S' L' Q' : Nat → Int32), PR m' q' A' F' S' L' Q' ∧ (r = -9 → m' ≠ 0) ∧ (∀ (f x3 c : Nat) (v : Int32) (W : Nat → Int32) (o n1 : Nat), n - p < f → x3 ≤ p → ∃ v', f_X4_readPlan_15 o n1 f (nI x3) (CS h t n p c v W A F S L) = some (r, CS h t n p' c v' W A' F' S' L')) ∧ ∀ (f : Nat) (v : Int32) (c : Nat) (W : Nat → Int32), n - p < f → ∃ v', f_X8_planFault_24 f (nI t) (MZ g p v c q W Q) = some (r, MZ g p' v' c q' W Q') := by
  have t4 := G.1
  intro d
  induction d with
  | zero =>
    intro p m q A F S L Q hd hp R
    have R0 := R
    obtain ⟨r1, r2, r3, r4, r5, r6, r7, r8, r9, r10⟩ := R0
    obtain rfl : p = n := by omega
    refine ⟨if m = 0 then nI p else -9, p, m, q, A, F, S, L, Q, R, fun z m0 => ?_, fun f x3 c v W o n1 hf h3 => ⟨v, ?_⟩, fun f v c W hf => ⟨v, ?_⟩⟩
    · rw [if_pos m0] at z
      exact nI_m9 (by omega) z
    · obtain ⟨f, rfl⟩ : ∃ g, f = g + 1 := ⟨f - 1, by omega⟩
      obtain ⟨e, a1, a2, -, -, a5⟩ := c_more H hn hp
      obtain rfl : e = p := by omega
      rw [f_X4_readPlan_15, if_neg (show ¬ (80 : Int32) < nI x3 from nI_nlt (a := 80) (by omega) (by omega)), a5, Option.bind_some, decide_eq_false (by omega), if_pos bIf]
      unfold f_X4_readPlan_66
      rw [cs_A, r2, cs_4]
      by_cases m0 : m = 0
      · rw [if_pos m0, if_pos (by rw [m0]; rfl)]
      · rw [if_neg m0, if_neg (fun z => m0 ((nI_z (by omega)).mp z))]
    · obtain ⟨f, rfl⟩ : ∃ g, f = g + 1 := ⟨f - 1, by omega⟩
      rw [f_X8_planFault_24, if_pos (inb_nI (by omega) (by decide)), nI_clamp (by omega), ms_row (by omega) (by omega) (by omega), G.2.1, ms_14, if_pos (nI_le (Nat.le_refl _) (by omega)), if_pos (show inb 0 26 = true by decide), ms_Q, tn0, r7]
      by_cases m0 : m = 0
      · rw [if_pos m0, if_pos (by rw [m0]; rfl), if_pos (inb_nI (by omega) (by decide))]
      · rw [if_neg m0, if_neg (fun z => m0 ((nI_z (by omega)).mp z))]
  | succ d ih =>
    intro p m q A F S L Q hd hp R
    have R0 := R
    obtain ⟨r1, r2, r3, r4, r5, r6, r7, r8, r9, r10⟩ := R0
    obtain ⟨e, a1, a2, a3, a4, a5⟩ := c_more H hn hp
    have C : ∀ (f x3 c : Nat) (v : Int32) (W : Nat → Int32) (o n1 : Nat), x3 ≤ p → f_X4_readPlan_15 o n1 (f + 1) (nI x3) (CS h t n p c v W A F S L) = (if bI (decide (e < n)) = 0 then f_X4_readPlan_66 o n1 (CS h t n e c v W A F S L) else (f_X4_sign (CS h t n e c v W A F S L)).bind fun r7 => (if r7 = (109 : Int32) then (f_X4_readMinutes (CS h t n e c v W A F S L)).bind fun q9 => f_X4_readPlan_48 o n1 (f_X4_readPlan_15 o n1 f) (nI x3) q9.1 q9.2 else (f_X4_readCourse (CS h t n e c v W A F S L)).bind fun q11 => f_X4_readPlan_48 o n1 (f_X4_readPlan_15 o n1 f) (nI x3) q11.1 q11.2)) := fun f x3 c v W o n1 h3 => by
      rw [f_X4_readPlan_15, if_neg (show ¬ (80 : Int32) < nI x3 from nI_nlt (a := 80) (by omega) (by omega)), a5, Option.bind_some]
    have M : ∀ (f : Nat) (v : Int32) (c : Nat) (W : Nat → Int32), n - p < f → ∃ f', f = f' + 1 + (e - p) ∧ n - e < f' + 1 ∧ f_X8_planFault_24 f (nI t) (MZ g p v c q W Q) = f_X8_planFault_24 (f' + 1) (nI t) (MZ g e v c q W Q) := fun f v c W hf => by
      refine ⟨f - (e - p) - 1, by omega, by omega, ?_⟩
      rw [← m_plsps G hn (e - p) p (f - (e - p) - 1 + 1) (by omega) a2 a3, show f - (e - p) - 1 + 1 + (e - p) = f by omega]
    rcases a4 with a4 | ⟨a4, a6⟩
    · refine ⟨if m = 0 then nI n else -9, e, m, q, A, F, S, L, Q, R, fun z m0 => ?_, fun f x3 c v W o n1 hf h3 => ⟨v, ?_⟩, fun f v c W hf => ⟨v, ?_⟩⟩
      · rw [if_pos m0] at z
        exact nI_m9 (by omega) z
      · obtain ⟨f, rfl⟩ : ∃ g, f = g + 1 := ⟨f - 1, by omega⟩
        rw [C f x3 c v W o n1 h3, decide_eq_false (by omega), if_pos bIf]
        unfold f_X4_readPlan_66
        rw [cs_A, r2, cs_4]
        by_cases m0 : m = 0
        · rw [if_pos m0, if_pos (by rw [m0]; rfl)]
        · rw [if_neg m0, if_neg (fun z => m0 ((nI_z (by omega)).mp z))]
      · obtain ⟨f', -, -, mm⟩ := M f v c W hf
        rw [mm, f_X8_planFault_24, if_pos (inb_nI (by omega) (by decide)), nI_clamp (by omega), ms_row (by omega) (by omega) (by omega), G.2.1, ms_14, if_pos (nI_le (by omega) (by omega)), if_pos (show inb 0 26 = true by decide), ms_Q, tn0, r7]
        by_cases m0 : m = 0
        · rw [if_pos m0, if_pos (by rw [m0]; rfl), if_pos (inb_nI (by omega) (by decide))]
        · rw [if_neg m0, if_neg (fun z => m0 ((nI_z (by omega)).mp z))]
    · obtain ⟨ok, p', m', q', A', F', S', L', Q', i1, i2, i3, i4⟩ := r_item H G hn a4 R
      have C1 : ∀ (f x3 c : Nat) (v : Int32) (W : Nat → Int32) (o n1 : Nat), x3 ≤ p → ∃ v', f_X4_readPlan_15 o n1 (f + 1) (nI x3) (CS h t n p c v W A F S L) = f_X4_readPlan_48 o n1 (f_X4_readPlan_15 o n1 f) (nI x3) (bI ok) (CS h t n p' c v' W A' F' S' L') := fun f x3 c v W o n1 h3 => by
        obtain ⟨v', z⟩ := i3 c v W
        refine ⟨v', ?_⟩
        rw [C f x3 c v W o n1 h3, decide_eq_true a4, if_neg (bI_t rfl), c_sign H hn (by omega), Option.bind_some, bC_lt a4]
        by_cases e9 : T e = 109
        · replace z : f_X4_readMinutes (CS h t n e c v W A F S L) = some (bI ok, CS h t n p' c v' W A' F' S' L') := (if_pos e9).symm.trans z
          rw [if_pos e9, z]
          rfl
        · replace z : f_X4_readCourse (CS h t n e c v W A F S L) = some (bI ok, CS h t n p' c v' W A' F' S' L') := (if_neg e9).symm.trans z
          rw [if_neg e9, z]
          rfl
      have M1 : ∀ (f : Nat) (v : Int32) (c : Nat) (W : Nat → Int32), ∃ v', f_X8_planFault_24 (f + 1) (nI t) (MZ g e v c q W Q) = if bI ok = 0 then some (nI p', MZ g p' v' c q' W Q') else f_X8_planFault_24 f (nI t) (MZ g p' v' c q' W Q') := fun f v c W => by
        obtain ⟨v', z⟩ := i4 c v W
        refine ⟨v', ?_⟩
        rw [f_X8_planFault_24, if_pos (inb_nI (by omega) (by decide)), nI_clamp (by omega), ms_row (by omega) (by omega) (by omega), G.2.1, ms_14, if_neg (nI_ge a4 (by omega)), m_byte G hn (by omega), Option.bind_some, bM_lt a4, if_neg a6, z, Option.bind_some, ms_14]
      cases ok with
      | false =>
        refine ⟨nI p', p', m', q', A', F', S', L', Q', i1, fun z => ?_, fun f x3 c v W o n1 hf h3 => ?_, fun f v c W hf => ?_⟩
        · exact absurd z (nI_m9 (by have := i2.1; omega))
        · obtain ⟨f, rfl⟩ : ∃ g, f = g + 1 := ⟨f - 1, by omega⟩
          obtain ⟨v', z⟩ := C1 f x3 c v W o n1 h3
          refine ⟨v', ?_⟩
          rw [z]
          unfold f_X4_readPlan_48
          rw [if_pos bIf, cs_5]
        · obtain ⟨f', -, -, mm⟩ := M f v c W hf
          obtain ⟨v', z⟩ := M1 f' v c W
          exact ⟨v', by rw [mm, z, if_pos bIf]⟩
      | true =>
        obtain ⟨j1, j2⟩ := i2.2 rfl
        obtain ⟨r, p2, m2, q2, A2, F2, S2, L2, Q2, k1, k2, k3, k4⟩ := ih p' m' q' A' F' S' L' Q' (by omega) (by omega) i1
        refine ⟨r, p2, m2, q2, A2, F2, S2, L2, Q2, k1, k2, fun f x3 c v W o n1 hf h3 => ?_, fun f v c W hf => ?_⟩
        · obtain ⟨f, rfl⟩ : ∃ g, f = g + 1 := ⟨f - 1, by omega⟩
          obtain ⟨v', z⟩ := C1 f x3 c v W o n1 h3
          rw [z]
          unfold f_X4_readPlan_48
          rw [if_neg (bI_t rfl), nI_1]
          exact k3 f (x3 + 1) c v' W o n1 (by omega) (by omega)
        · obtain ⟨f', -, f2, mm⟩ := M f v c W hf
          obtain ⟨v', z⟩ := M1 f' v c W
          rw [mm, z, if_neg (bI_t rfl)]
          exact k4 f' v' c W (by omega)
end RD
