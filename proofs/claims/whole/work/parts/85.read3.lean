/-! ===== the reader: plan ===== -/
def PR (m q : Nat) (A F S L Q : Nat → Int32) : Prop := A 0 = 1 ∧ A 1 = nI m ∧ m ≤ 8 ∧ A 2 = nI q ∧ q ≤ 60 ∧ A 3 = Q 1 ∧ Q 0 = nI m ∧ (∃ u, u ≤ 9 ∧ Q 1 = nI u) ∧ q = st (qz Q) m ∧ ∀ y, y < m → F y = Q (2 + 3 * y) ∧ S y = Q (3 + 3 * y) ∧ L y = Q (4 + 3 * y) ∧ Q (3 + 3 * y) = nI (qz Q y) ∧ 1 ≤ qz Q y ∧ qz Q y ≤ 12 ∧ Q (4 + 3 * y) = nI (gn Q (4 + 3 * y)) ∧ gn Q (4 + 3 * y) ≤ 9
theorem st_cg {f f' : Nat → Nat} : ∀ {m : Nat}, (∀ y, y < m → f y = f' y) → st f m = st f' m := by
  intro m
  induction m with
  | zero => intro _; rfl
  | succ m ih =>
    intro e
    rw [st, st, ih (fun y hy => e y (by omega)), e m (by omega)]
section RD
variable {h g : TT} {t n p c q m e : Nat} {v x : Int32} {W A F S L Q T : Nat → Int32}
theorem PR.min (R : PR m q A F S L Q) {d : Nat} (hd : d ≤ 9) : PR m q (upd A 3 (nI d)) F S L (upd Q 1 (nI d)) := by
  obtain ⟨r1, r2, r3, r4, r5, r6, r7, r8, r9, r10⟩ := R
  have u : ∀ j, j ≠ 1 → upd Q 1 (nI d) j = Q j := fun j hj => by rw [upd_cases, if_neg hj]
  have z : ∀ y, qz (upd Q 1 (nI d)) y = qz Q y := fun y => by unfold qz gn; rw [u _ (by omega)]
  refine ⟨?_, ?_, r3, ?_, r5, ?_, ?_, ⟨d, hd, ?_⟩, ?_, fun y hy => ?_⟩
  · rw [upd_cases, if_neg (by decide)]; exact r1
  · rw [upd_cases, if_neg (by decide)]; exact r2
  · rw [upd_cases, if_neg (by decide)]; exact r4
  · rw [upd_cases, if_pos rfl, upd_cases, if_pos rfl]
  · rw [u 0 (by omega)]; exact r7
  · rw [upd_cases, if_pos rfl]
  · rw [r9]; exact st_cg fun y _ => (z y).symm
  · unfold gn
    rw [u _ (by omega), u _ (by omega), u _ (by omega), z]
    exact r10 y hy
theorem PR.add (R : PR m q A F S L Q) {d w : Nat} {fo : Int32} (hm : m < 8) (hw : 1 ≤ w) (hw2 : w ≤ 12) (hq : q + w ≤ 60) (hd : d ≤ 9) : PR (m + 1) (q + w) (upd (upd A 1 (nI (m + 1))) 2 (nI (q + w))) (upd F m fo) (upd S m (nI w)) (upd L m (nI d)) (upd (upd (upd (upd Q (2 + 3 * m) fo) (2 + 3 * m + 1) (nI w)) (2 + 3 * m + 2) (nI d)) 0 (nI (m + 1))) := by
  obtain ⟨r1, r2, r3, r4, r5, r6, r7, r8, r9, r10⟩ := R
  generalize hQ : upd (upd (upd (upd Q (2 + 3 * m) fo) (2 + 3 * m + 1) (nI w)) (2 + 3 * m + 2) (nI d)) 0 (nI (m + 1)) = Q'
  have u : ∀ j, j ≠ 0 → ¬ (2 + 3 * m ≤ j ∧ j ≤ 4 + 3 * m) → Q' j = Q j := fun j h0 hj => by rw [← hQ, upd_cases, if_neg h0, upd_cases, if_neg (by omega), upd_cases, if_neg (by omega), upd_cases, if_neg (by omega)]
  have u0 : Q' 0 = nI (m + 1) := by rw [← hQ, upd_cases, if_pos rfl]
  have u2 : Q' (2 + 3 * m) = fo := by rw [← hQ, upd_cases, if_neg (by omega), upd_cases, if_neg (by omega), upd_cases, if_neg (by omega), upd_cases, if_pos rfl]
  have u3 : Q' (3 + 3 * m) = nI w := by rw [← hQ, upd_cases, if_neg (by omega), upd_cases, if_neg (by omega), upd_cases, if_pos (by omega)]
  have u4 : Q' (4 + 3 * m) = nI d := by rw [← hQ, upd_cases, if_neg (by omega), upd_cases, if_pos (by omega)]
  have z : ∀ y, y < m → qz Q' y = qz Q y := fun y hy => by unfold qz gn; rw [u _ (by omega) (by omega)]
  have zm : qz Q' m = w := by unfold qz gn; rw [u3, nI_clamp (by omega)]
  refine ⟨?_, ?_, by omega, ?_, hq, ?_, u0, ?_, ?_, fun y hy => ?_⟩
  · rw [upd_cases, if_neg (by decide), upd_cases, if_neg (by decide)]; exact r1
  · rw [upd_cases, if_neg (by decide), upd_cases, if_pos rfl]
  · rw [upd_cases, if_pos rfl]
  · rw [upd_cases, if_neg (by decide), upd_cases, if_neg (by decide), u 1 (by omega) (by omega)]; exact r6
  · rw [u 1 (by omega) (by omega)]; exact r8
  · rw [st, zm, r9, st_cg fun y hy => z y hy]
  · by_cases e : y = m
    · subst e
      rw [upd_cases, if_pos rfl, upd_cases, if_pos rfl, upd_cases, if_pos rfl, u2, u3, u4, zm]
      unfold gn
      rw [u4, nI_clamp (by omega)]
      exact ⟨rfl, rfl, rfl, rfl, hw, hw2, rfl, hd⟩
    · rw [upd_cases, if_neg e, upd_cases, if_neg e, upd_cases, if_neg e, z y (by omega)]
      unfold gn
      rw [u _ (by omega) (by omega), u _ (by omega) (by omega), u _ (by omega) (by omega)]
      exact r10 y (by omega)
theorem c_rs (H : TC h t T) (hn : n ≤ 80) (hp : p ≤ 90) : f_X4_readSign (CS h t n p c v W A F S L) x = if bC T n p = x then some (1, CS h t n (p + 1) c v W A F S L) else some (0, CS h t n p c v W A F S L) := by
  unfold f_X4_readSign
  rw [c_sign H hn hp, Option.bind_some, cs_5, nI_1, nm_eq, cs_p]
theorem m_sg (G : TM g t n T) (hn : n ≤ 80) (hp : p ≤ 90) : f_X8_sign (MZ g p v c q W Q) (nI t) x = if bM T n p = x then some (1, MZ g (p + 1) v c q W Q) else some (0, MZ g p v c q W Q) := by
  unfold f_X8_sign f_X8_sign_18 f_X8_sign_33
  rw [ms_14, m_byte G hn hp, Option.bind_some]
  by_cases e : bM T n p = x
  · rw [if_pos e, if_pos e, if_neg n1_0, nm_eq, nI_1, ms_p, if_pos (by decide)]
  · rw [if_neg e, if_neg e, if_pos rfl, nm_eq, show nI p + 0 = nI (p + 0) from nI_add p 0, ms_p, if_pos (by decide)]
    rfl
theorem sgx (T : Nat → Int32) (n p : Nat) : (p < n ∧ bC T n p = 58 ∧ bM T n p = 58) ∨ (¬ bC T n p = 58 ∧ ¬ bM T n p = 58) := by
  unfold bC bM
  by_cases e : p < n
  · rw [if_pos e, if_pos e]
    by_cases z : T p = 58
    · exact Or.inl ⟨e, z, z⟩
    · exact Or.inr ⟨z, z⟩
  · rw [if_neg e, if_neg e]
    exact Or.inr ⟨by decide, by decide⟩
theorem m_fg1 (G : TM g t n T) (hn : n ≤ 80) (hp : p < n) {d l : Nat} (hd : d ≤ 9) (hl : l ≤ 1) (e : T p = nI (48 + d)) : f_X8_figure (MZ g p v c q W Q) (nI t) (nI l) = if l ≤ d then some (1, MZ g (p + 1) (nI d) c q W Q) else some (0, MZ g p (nI d) c q W Q) := by
  unfold f_X8_figure f_X8_figure_41
  rw [ms_14, m_byte G hn (by omega), Option.bind_some, bM_lt hp, e, d48 hd, nm_eq, ms_v, ms_15, f_in, Option.bind_some]
  by_cases z : l ≤ d
  · rw [if_pos (show nI l ≤ nI d ∧ nI d ≤ 9 from ⟨nI_le z (by omega), nI_le (b := 9) hd (by omega)⟩), if_pos z, if_neg n1_0, nm_eq, ms_14, nI_1, ms_p, if_pos (by decide)]
  · rw [if_neg (show ¬ (nI l ≤ nI d ∧ nI d ≤ 9) from fun w => z ((nI_leI (by omega) (by omega)).mp w.1)), if_neg z, if_pos rfl, nm_eq, ms_14, show nI p + 0 = nI (p + 0) from nI_add p 0, ms_p, if_pos (by decide)]
    rfl
theorem m_fg0 (G : TM g t n T) (hn : n ≤ 80) (hp : p ≤ 90) {l : Nat} (hl : l ≤ 1) (e : ¬ fgP (bM T n p)) : f_X8_figure (MZ g p v c q W Q) (nI t) (nI l) = some (0, MZ g p (bM T n p - 48) c q W Q) := by
  unfold f_X8_figure f_X8_figure_41
  rw [ms_14, m_byte G hn hp, Option.bind_some, nm_eq, ms_v, ms_15, f_in, Option.bind_some]
  have no : ¬ (nI l ≤ bM T n p - 48 ∧ bM T n p - 48 ≤ 9) := fun z => by
    have z1 : ¬ bM T n p - 48 < 0 := fun w => by
      have a := i32_lt.mp w
      have b := i32_le.mp z.1
      rw [nI_toInt (by omega)] at b
      have e0 : (0 : Int32).toInt = 0 := rfl
      omega
    obtain ⟨d, hd, ed⟩ := nI_of2 (M := 9) (n := 9) rfl z1 z.2
    refine e ?_
    rw [show bM T n p = nI (48 + d) by rw [Nat.add_comm, ← nI_add, ← ed]; exact (Int32.sub_add_cancel _ _).symm]
    exact fg_nI hd
  rw [if_neg no, if_pos rfl, nm_eq, ms_14, show nI p + 0 = nI (p + 0) from nI_add p 0, ms_p, if_pos (by decide)]
  rfl
def ITEM (h g : TT) (t n e : Nat) (fC : TT → Option (Int32 × TT)) (q : Nat) (A F S L Q : Nat → Int32) : Prop := ∃ (ok : Bool) (p' m' q' : Nat) (A' F' S' L' Q' : Nat → Int32), PR m' q' A' F' S' L' Q' ∧ (p' ≤ 90 ∧ (ok = true → e < p' ∧ p' ≤ n)) ∧ (∀ c v W, ∃ v', fC (CS h t n e c v W A F S L) = some (bI ok, CS h t n p' c v' W A' F' S' L')) ∧ ∀ c v W, ∃ v', f_X8_readsCourse (MZ g e v c q W Q) (nI t) = some (bI ok, MZ g p' v' c q' W Q')
theorem m_49 : f_X8_readsCourse_49 (MZ g p v c q W Q) = some (0, MZ g p v c q W Q) := by
  unfold f_X8_readsCourse_49 f_X8_readsCourse_50 f_X8_readsCourse_73
  rw [if_pos rfl, if_pos (show inb 1 26 = true by decide), if_pos (show inb 1 26 = true by decide), nm_eq, if_pos (by decide), show (1 : Int32).toNatClampNeg = 1 from nI_clamp (n := 1) (by decide), ms_wQ, ms_Q, upd_id rfl]
theorem r_min (H : TC h t T) (G : TM g t n T) (hn : n ≤ 80) (he : e < n) (te : T e = 109) (R : PR m q A F S L Q) : ITEM h g t n e f_X4_readMinutes q A F S L Q := by
  have no : ∀ p', p' ≤ 90 → (∀ c v W, ∃ v', f_X4_readMinutes (CS h t n e c v W A F S L) = some (0, CS h t n p' c v' W A F S L)) → (∀ c v W, ∃ v', f_X8_readsCourse (MZ g e v c q W Q) (nI t) = some (0, MZ g p' v' c q W Q)) → ITEM h g t n e f_X4_readMinutes q A F S L Q := fun p' hp' a b => ⟨false, p', m, q, A, F, S, L, Q, R, ⟨hp', fun z => absurd z (by decide)⟩, a, b⟩
  have C : ∀ c v W, f_X4_readMinutes (CS h t n e c v W A F S L) = (if bC T n (e + 1) = 58 then some ((1 : Int32), CS h t n (e + 1 + 1) c v W A F S L) else some (0, CS h t n (e + 1) c v W A F S L)).bind fun q2 => (if q2.1 = 0 then some ((0 : Int32), q2.2) else (f_X4_isFigure q2.2).bind fun r4 => (if r4 = 0 then some ((0 : Int32), q2.2) else (f_X4_sign q2.2).bind fun r6 => (if r6 = (48 : Int32) then some ((0 : Int32), q2.2) else (f_X4_sign q2.2).bind fun r8 => nm (wr q2.2 130 3 (r8 - (48 : Int32))) fun h9 => nm (wr h9 127 5 ((h9.1 127 5) + (1 : Int32))) fun h10 => some ((1 : Int32), h10)))) := fun c v W => by
    unfold f_X4_readMinutes
    rw [cs_5, nI_1, nm_eq, cs_p, c_rs H hn (by omega)]
  have M : ∀ c v W, f_X8_readsCourse (MZ g e v c q W Q) (nI t) = (if bM T n (e + 1) = 58 then some ((1 : Int32), MZ g (e + 1 + 1) v c q W Q) else some (0, MZ g (e + 1) v c q W Q)).bind fun q4 => (if q4.1 = 0 then f_X8_readsCourse_49 q4.2 else (f_X8_figure q4.2 (nI t) (1 : Int32)).bind fun q11 => (if q11.1 = 0 then f_X8_readsCourse_49 q11.2 else f_X8_readsCourse_50 (1 : Int32) q11.2)) := fun c v W => by
    unfold f_X8_readsCourse
    rw [ms_14, m_byte G hn (by omega), Option.bind_some, bM_lt he, te, if_pos rfl, nI_1, nm_eq, ms_p, m_sg G hn (by omega)]
  rcases sgx T n (e + 1) with ⟨s1, s2, s3⟩ | ⟨s2, s3⟩
  · rcases fgx T n (e + 1 + 1) with ⟨d, hd, f1, f2⟩ | ⟨f1, f2⟩
    · by_cases d0 : d = 0
      · refine no (e + 1 + 1) (by omega) (fun c v W => ⟨v, ?_⟩) (fun c v W => ⟨nI d, ?_⟩)
        · rw [C, if_pos s2, Option.bind_some, if_neg n1_0, (c_isF H hn (by omega)).1 (by rw [bC_lt f1, f2]; exact fg_nI hd), Option.bind_some, if_neg n1_0, c_sign H hn (by omega), Option.bind_some, bC_lt f1, f2, if_pos (by rw [d0]; decide)]
        · rw [M, if_pos s3, Option.bind_some, if_neg n1_0, show (1 : Int32) = nI 1 from rfl, m_fg1 G hn f1 hd (by omega) f2, if_neg (by omega), Option.bind_some, if_pos rfl, m_49]
      · refine ⟨true, e + 1 + 1 + 1, m, q, upd A 3 (nI d), F, S, L, upd Q 1 (nI d), R.min hd, ⟨by omega, fun _ => ⟨by omega, by omega⟩⟩, fun c v W => ⟨v, ?_⟩, fun c v W => ⟨nI d, ?_⟩⟩
        · rw [C, if_pos s2, Option.bind_some, if_neg n1_0, (c_isF H hn (by omega)).1 (by rw [bC_lt f1, f2]; exact fg_nI hd), Option.bind_some, if_neg n1_0, c_sign H hn (by omega), Option.bind_some, bC_lt f1, f2, if_neg (fun z : nI (48 + d) = 48 => d0 (by have := (nI_eq (by omega) (by omega)).mp (show nI (48 + d) = nI 48 from z); omega)), Option.bind_some, d48 hd, nm_eq, cs_wA, nm_eq, cs_5, nI_1, cs_p]
          rfl
        · rw [M, if_pos s3, Option.bind_some, if_neg n1_0, show f_X8_figure (MZ g (e + 1 + 1) v c q W Q) (nI t) 1 = _ from m_fg1 (l := 1) G hn f1 hd (by omega) f2, if_pos (by omega), Option.bind_some, if_neg n1_0]
          unfold f_X8_readsCourse_50 f_X8_readsCourse_73
          rw [if_neg n1_0, if_pos (show inb 1 26 = true by decide), nm_eq, if_pos (by decide), show (1 : Int32).toNatClampNeg = 1 from nI_clamp (n := 1) (by decide), ms_wQ, ms_15]
          rfl
    · refine no (e + 1 + 1) (by omega) (fun c v W => ⟨v, ?_⟩) (fun c v W => ⟨bM T n (e + 1 + 1) - 48, ?_⟩)
      · rw [C, if_pos s2, Option.bind_some, if_neg n1_0, (c_isF H hn (by omega)).2 f1, Option.bind_some, if_pos rfl]
      · rw [M, if_pos s3, Option.bind_some, if_neg n1_0, show f_X8_figure (MZ g (e + 1 + 1) v c q W Q) (nI t) 1 = _ from m_fg0 (l := 1) G hn (by omega) (by omega) f2, Option.bind_some, if_pos rfl, m_49]
  · refine no (e + 1) (by omega) (fun c v W => ⟨v, ?_⟩) (fun c v W => ⟨v, ?_⟩)
    · rw [C, if_neg s2, Option.bind_some, if_pos rfl]
    · rw [M, if_neg s3, Option.bind_some, if_pos rfl, m_49]
end RD
