def msB (Q : Nat → Int32) (rw' : Nat → Int32) (i : Nat) : Bool := !(fB (buW Q (aF Q)) i == decide (rw' i = 1))
/-- do just those fall that the row tells -/
def asB (Q : Nat → Int32) (rw' : Nat → Int32) : Bool := decide (cnt (msB Q rw') (aF Q) = 0)
def mtB (P : Nat → Int32) (rw' : Nat → Int32) (t : Nat) : Bool := match slI P t with
  | some kv => asB (upd P kv.1 kv.2) rw'
  | none => false
def ffV (T : Nat → Bool) : Nat → Int32
  | 0 => -9
  | n + 1 => if T n = true ∧ cnt T n = 0 then nI n else ffV T n
def bdB (rw' : Nat → Int32) (i : Nat) : Bool := !decide (0 ≤ rw' i ∧ rw' i ≤ 1)
def onB (rw' : Nat → Int32) (i : Nat) : Bool := decide (rw' i = 1)
section INV
variable {h h' g s : TT} {o k b q : Nat} {B B' : Nat → Nat → Int32} {P P' Q : Nat → Int32} {L L' : Nat} {w c w' c' rw' : Nat → Int32}
theorem ff_9 (T : Nat → Bool) : ∀ n, n < 2 ^ 31 → (ffV T n = -9 ↔ cnt T n = 0) := by
  intro n
  induction n with
  | zero => intro _; exact ⟨fun _ => rfl, fun _ => rfl⟩
  | succ n ih =>
    intro hn
    rw [ffV, cnt]
    by_cases e : T n = true
    · rw [if_pos e]
      by_cases e2 : cnt T n = 0
      · rw [if_pos ⟨e, e2⟩]
        exact ⟨fun z => absurd z (nI_m9 (by omega)), fun z => by omega⟩
      · rw [if_neg (fun z => e2 z.2), ih (by omega)]
        constructor <;> omega
    · rw [if_neg e, if_neg (fun z => e z.1), ih (by omega)]
      constructor <;> omega
theorem bd_01 {i : Nat} (e : bdB rw' i = false) : rw' i = 0 ∨ rw' i = 1 := by
  unfold bdB at e
  have e2 : 0 ≤ rw' i ∧ rw' i ≤ 1 := by
    by_cases z : 0 ≤ rw' i ∧ rw' i ≤ 1
    · exact z
    · rw [decide_eq_false z] at e; cases e
  have a := i32_le.mp e2.1
  have b := i32_le.mp e2.2
  have z0 : (0 : Int32).toInt = 0 := rfl
  have z1 : (1 : Int32).toInt = 1 := rfl
  rcases (show (rw' i).toInt = 0 ∨ (rw' i).toInt = 1 by omega) with z | z
  · left; rw [i32_eq]; omega
  · right; rw [i32_eq]; omega
theorem c_ones {r n : Nat} (hr : r < 6) (hn : n ≤ 60) (hs : h.1 8 r = nI n) : ∀ (d f i : Nat), i + d = n → d < f → cnt (bdB (h.1 (2 + r))) i = 0 → f_X7_onesOf_4 h f (nI r) (nI (cnt (onB (h.1 (2 + r))) i)) (nI i) = some (if cnt (bdB (h.1 (2 + r))) n = 0 then nI (cnt (onB (h.1 (2 + r))) n) else -1) := by
  intro d
  induction d with
  | zero =>
    intro f i hi hf hb
    obtain ⟨f, rfl⟩ : ∃ g, f = g + 1 := ⟨f - 1, by omega⟩
    obtain rfl : i = n := by omega
    rw [f_X7_onesOf_4, if_pos (inb_nI hr (by decide)), nI_clamp (by omega), hs, if_pos (nI_le (Nat.le_refl _) (by omega)), if_pos hb]
  | succ d ih =>
    intro f i hi hf hb
    obtain ⟨f, rfl⟩ : ∃ g, f = g + 1 := ⟨f - 1, by omega⟩
    rw [f_X7_onesOf_4, if_pos (inb_nI hr (by decide)), nI_clamp (by omega), hs, if_neg (nI_ge (by omega) (by omega)), if_pos (inb_nI hr (by decide)), if_pos (inb_nI (by omega) (by decide)), nI_clamp (by omega), f_upto, Option.bind_some]
    have up := cnt_up (p := bdB (h.1 (2 + r))) (show i + 1 ≤ n by omega)
    rw [cnt] at up
    cases e : bdB (h.1 (2 + r)) i with
    | true =>
      have e1 : ¬ (0 ≤ h.1 (2 + r) i ∧ h.1 (2 + r) i ≤ 1) := fun z => by
        unfold bdB at e
        rw [decide_eq_true z] at e; cases e
      rw [e, if_pos rfl] at up
      rw [if_neg e1, if_pos rfl, if_neg (by omega)]
    | false =>
      have v := bd_01 e
      have e1 : 0 ≤ h.1 (2 + r) i ∧ h.1 (2 + r) i ≤ 1 := by rcases v with z | z <;> rw [z] <;> decide
      rw [if_pos e1, if_neg n1_0, if_pos (inb_nI hr (by decide)), if_pos (inb_nI (by omega) (by decide)), nm_eq, nI_1]
      have i2 := ih f (i + 1) (by omega) (by omega) (by rw [cnt, e, hb]; rfl)
      rw [cnt] at i2
      rcases v with z | z
      · rw [show onB (h.1 (2 + r)) i = false by unfold onB; rw [z]; rfl] at i2
        rw [z, show nI (cnt (onB (h.1 (2 + r))) i) + 0 = nI (cnt (onB (h.1 (2 + r))) i + 0) from nI_add _ 0]
        exact i2
      · rw [show onB (h.1 (2 + r)) i = true by unfold onB; rw [z]; rfl] at i2
        rw [z, nI_1]
        exact i2
theorem m_rowAt {r k : Nat} (ok : r < 6) (hi : k < 60) : f_X8_rowAt h (nI r) (nI k) = some (h.1 150 (60 * r + k)) := by
  unfold f_X8_rowAt
  rw [k60, if_pos (inb_nI (by omega) (by decide)), nI_clamp (by omega)]
theorem m_f64 {r n : Nat} (hr : r < 6) (hn : n ≤ 60) (hs : h.1 149 r = nI n) (he : ∀ i, i < 60 → h.1 150 (60 * r + i) = rw' i) : ∀ (d f i : Nat) (x : Bool), i + d = n → d < f → f_X8_fell_64 f (nI r) (bI x) (nI i) h = if (x && decide (cnt (bdB rw') n = cnt (bdB rw') i)) = false then ((f_X8_meets h (3 : Int32)).bind fun q14 => some (q14.1, q14.2)) else f_X8_fell_123 KF (nI r) (-9 : Int32) (0 : Int32) (0 : Int32) h := by
  intro d
  induction d with
  | zero =>
    intro f i x hi hf
    obtain ⟨f, rfl⟩ : ∃ g, f = g + 1 := ⟨f - 1, by omega⟩
    obtain rfl : i = n := by omega
    rw [f_X8_fell_64, if_pos (inb_nI hr (by decide)), nI_clamp (by omega), hs, if_pos (nI_le (Nat.le_refl _) (by omega)), decide_eq_true rfl, Bool.and_true]
    cases x <;> rfl
  | succ d ih =>
    intro f i x hi hf
    obtain ⟨f, rfl⟩ : ∃ g, f = g + 1 := ⟨f - 1, by omega⟩
    have up := cnt_up (p := bdB rw') (show i + 1 ≤ n by omega)
    rw [cnt] at up
    have i0 := ih f (i + 1) false (by omega) (by omega)
    have i1 := ih f (i + 1) true (by omega) (by omega)
    rw [Bool.false_and, if_pos rfl] at i0
    rw [Bool.true_and, cnt] at i1
    rw [f_X8_fell_64, if_pos (inb_nI hr (by decide)), nI_clamp (by omega), hs, if_neg (nI_ge (by omega) (by omega))]
    unfold f_X8_fell_96 f_X8_fell_97
    rw [nI_1]
    cases x with
    | false =>
      rw [if_pos bIf, Bool.false_and, if_pos rfl]
      exact i0
    | true =>
      rw [if_neg (bI_t rfl), m_rowAt hr (by omega), Option.bind_some, f_in, Option.bind_some, he i (by omega), Bool.true_and]
      by_cases e : 0 ≤ rw' i ∧ rw' i ≤ 1
      · rw [show bdB rw' i = false by unfold bdB; rw [decide_eq_true e]; rfl] at i1
        rw [if_pos e, if_neg n1_0]
        exact i1
      · rw [show bdB rw' i = true by unfold bdB; rw [decide_eq_false e]; rfl, if_pos rfl] at up
        rw [if_neg e, if_pos rfl, decide_eq_false (by omega), if_pos rfl]
        exact i0
theorem c_fa {rr : Nat} (D : RD B Q (aF Q) (buW Q (aF Q)) c0) (hW : WF Q) (he : ∀ i, i < 60 → (setB h o B).1 rr i = rw' i) : ∀ (d f i : Nat), i + d = aF Q → d < f → f_X0_fellAs_13 (setB h o B) o rr 60 f (nI i) = some (bI (decide (cnt (msB Q rw') (aF Q) = cnt (msB Q rw') i))) := by
  have h60 := hW.a60
  intro d
  induction d with
  | zero =>
    intro f i hi hf
    obtain ⟨f, rfl⟩ : ∃ g, f = g + 1 := ⟨f - 1, by omega⟩
    rw [f_X0_fellAs_13, sb_0, D.1, if_pos (nI_le (by omega) (by omega)), decide_eq_true (by rw [show i = aF Q by omega])]
    rfl
  | succ d ih =>
    intro f i hi hf
    obtain ⟨f, rfl⟩ : ∃ g, f = g + 1 := ⟨f - 1, by omega⟩
    have up := cnt_up (p := msB Q rw') (show i + 1 ≤ aF Q by omega)
    rw [cnt] at up
    have i1 := ih f (i + 1) (by omega) (by omega)
    rw [cnt] at i1
    have fbs := fB_sV (L := aF Q) (w := buW Q (aF Q)) (c := c0) (i := i) (by omega)
    rw [f_X0_fellAs_13, sb_0, D.1, if_neg (nI_ge (by omega) (by omega)), if_pos (inb_nI (by omega) (by decide)), sb_7, nI_clamp (by omega), (D.2.2.2.1 i (by omega)).1]
    unfold f_X0_fellAs_36 f_X0_fellAs_48
    rw [if_pos (inb_nI (by omega) (by decide)), if_pos (inb_nI (by omega) (by decide)), nI_clamp (by omega), he i (by omega), nI_1]
    have no : msB Q rw' i = true → some (0 : Int32) = some (bI (decide (cnt (msB Q rw') (aF Q) = cnt (msB Q rw') i))) := fun z => by
      rw [z, if_pos rfl] at up
      rw [decide_eq_false (by omega)]; rfl
    have ye : msB Q rw' i = false → f_X0_fellAs_13 (setB h o B) o rr 60 f (nI (i + 1)) = some (bI (decide (cnt (msB Q rw') (aF Q) = cnt (msB Q rw') i))) := fun z => by
      rw [z] at i1
      exact i1
    by_cases e1 : fB (buW Q (aF Q)) i = true
    · rw [if_pos (fbs.mpr e1)]
      by_cases e2 : rw' i = 1
      · rw [if_pos e2, if_pos rfl]
        exact ye (by unfold msB; rw [e1, decide_eq_true e2]; rfl)
      · rw [if_neg e2, if_neg n1_0]
        exact no (by unfold msB; rw [e1, decide_eq_false e2]; rfl)
    · rw [if_neg (fun z => e1 (fbs.mp z))]
      have e1' : fB (buW Q (aF Q)) i = false := Bool.eq_false_iff.mpr e1
      by_cases e2 : rw' i = 1
      · rw [if_pos e2, if_neg (fun z => n1_0 z.symm)]
        exact no (by unfold msB; rw [e1', decide_eq_true e2]; rfl)
      · rw [if_neg e2, if_pos rfl]
        exact ye (by unfold msB; rw [e1', decide_eq_false e2]; rfl)
theorem c_fellAs {rr : Nat} (D : RD B Q (aF Q) (buW Q (aF Q)) c0) (hW : WF Q) (he : ∀ i, i < 60 → (setB h o B).1 rr i = rw' i) : f_X0_fellAs (setB h o B) o rr 60 = some (bI (asB Q rw')) := by
  have h60 := hW.a60
  unfold f_X0_fellAs
  rw [sb_0, D.1, if_pos (nI_le (by omega) (by omega)), show (0 : Int32) = nI 0 from rfl, c_fa D hW he (aF Q) KF 0 (by omega) (by have := KF_ge; omega)]
  rfl
theorem m_as4 (ok : MOK h b) (hW : WF Q) {r : Nat} (hr : r < 6) (he : ∀ i, i < 60 → (MSt h b Q (aF Q) (buW Q (aF Q)) c0).1 150 (60 * r + i) = rw' i) (h01 : ∀ i, i < aF Q → rw' i = 0 ∨ rw' i = 1) : ∀ (d f i : Nat) (x : Bool), i + d = aF Q → d < f → f_X8_isAs_4 (MSt h b Q (aF Q) (buW Q (aF Q)) c0) f (nI r) (bI x) (nI i) = some (bI (x && decide (cnt (msB Q rw') (aF Q) = cnt (msB Q rw') i))) := by
  have h60 := hW.a60
  intro d
  induction d with
  | zero =>
    intro f i x hi hf
    obtain ⟨f, rfl⟩ : ∃ g, f = g + 1 := ⟨f - 1, by omega⟩
    rw [f_X8_isAs_4, m_all ok hW, Option.bind_some, if_pos (nI_le (by omega) (by omega)), show i = aF Q by omega, decide_eq_true rfl, Bool.and_true]
    cases x <;> rfl
  | succ d ih =>
    intro f i x hi hf
    obtain ⟨f, rfl⟩ : ∃ g, f = g + 1 := ⟨f - 1, by omega⟩
    have up := cnt_up (p := msB Q rw') (show i + 1 ≤ aF Q by omega)
    rw [cnt] at up
    have i0 := ih f (i + 1) false (by omega) (by omega)
    have i1 := ih f (i + 1) true (by omega) (by omega)
    rw [Bool.false_and] at i0
    rw [Bool.true_and, cnt] at i1
    rw [f_X8_isAs_4, m_all ok hW, Option.bind_some, if_neg (nI_ge (by omega) (by omega))]
    unfold f_X8_isAs_29 f_X8_isAs_42 f_X8_isAs_43
    rw [nI_1]
    cases x with
    | false =>
      rw [if_pos bIf, Bool.false_and]
      exact i0
    | true =>
      rw [if_neg (bI_t rfl), m_slumped ok (by omega), Option.bind_some, m_rowAt hr (by omega), Option.bind_some, Option.bind_some, he i (by omega), Bool.true_and]
      have no : msB Q rw' i = true → f_X8_isAs_4 (MSt h b Q (aF Q) (buW Q (aF Q)) c0) f (nI r) 0 (nI (i + 1)) = some (bI (decide (cnt (msB Q rw') (aF Q) = cnt (msB Q rw') i))) := fun z => by
        rw [z, if_pos rfl] at up
        rw [decide_eq_false (by omega)]
        exact i0
      have ye : msB Q rw' i = false → f_X8_isAs_4 (MSt h b Q (aF Q) (buW Q (aF Q)) c0) f (nI r) 1 (nI (i + 1)) = some (bI (decide (cnt (msB Q rw') (aF Q) = cnt (msB Q rw') i))) := fun z => by
        rw [z] at i1
        exact i1
      rcases h01 i (by omega) with v | v
      · have d0 : decide (rw' i = 1) = false := by rw [v]; rfl
        cases e1 : fB (buW Q (aF Q)) i with
        | true =>
          rw [if_neg (bI_t rfl), v, if_neg n1_0]
          exact no (by unfold msB; rw [e1, d0]; rfl)
        | false =>
          rw [if_pos bIf, v, if_pos rfl]
          exact ye (by unfold msB; rw [e1, d0]; rfl)
      · have d0 : decide (rw' i = 1) = true := by rw [v]; rfl
        cases e1 : fB (buW Q (aF Q)) i with
        | true =>
          rw [if_neg (bI_t rfl), v, if_pos rfl]
          exact ye (by unfold msB; rw [e1, d0]; rfl)
        | false =>
          rw [if_pos bIf, v, if_neg (fun z => n1_0 z.symm)]
          exact no (by unfold msB; rw [e1, d0]; rfl)
theorem m_isAs (ok : MOK h b) (hW : WF Q) {r : Nat} (hr : r < 6) (he : ∀ i, i < 60 → (MSt h b Q (aF Q) (buW Q (aF Q)) c0).1 150 (60 * r + i) = rw' i) (h01 : ∀ i, i < aF Q → rw' i = 0 ∨ rw' i = 1) : f_X8_isAs (MSt h b Q (aF Q) (buW Q (aF Q)) c0) (nI r) = some (bI (asB Q rw')) := by
  have h60 := hW.a60
  unfold f_X8_isAs
  rw [show (1 : Int32) = bI true from rfl, show (0 : Int32) = nI 0 from rfl, m_as4 ok hW hr he h01 (aF Q) KF 0 true (by omega) (by have := KF_ge; omega), Bool.true_and]
  rfl
/-- raise(ones) ends with ones, and they fell as the row tells: so it is by all laid anew -/
theorem c_match (hW : WF Q) (R : RS B Q) {r : Nat} (hr : r < 6) (he : ∀ i, i < 60 → h.1 (2 + r) i = rw' i) {ones : Nat} (ho : ones = cnt (onB rw') (aF Q)) : ∃ B' v, f_X0_raise (setB h 110 B) 110 (nI ones) = some (nI v, setB h 110 B') ∧ RS B' Q ∧ v < 2 ^ 31 ∧ (v = ones → f_X0_fellAs (setB h 110 B') 110 (2 + r) 60 = some (bI (asB Q rw'))) ∧ (v ≠ ones → asB Q rw' = false) := by
  have h60 := hW.a60
  have o60 := cnt_le (onB rw') (aF Q)
  obtain ⟨L', B', e1, R', D', q1, q2, q3⟩ := c_raise (h := h) (o := 110) hW (m := ones) (by omega) R
  have fl := FN_le Q L'
  have mo := FN_mono hW q1 (Nat.le_refl _)
  refine ⟨B', FN Q L', e1, R', by omega, fun z => ?_, fun z => ?_⟩
  · have ea : L' = aF Q := by rcases q2 with q2 | q2 <;> omega
    rw [ea] at D'
    exact c_fellAs D' hW (fun i hi => by rw [sb_o (by omega)]; exact he i hi)
  · cases e : asB Q rw' with
    | false => rfl
    | true =>
      exfalso
      have c0' := cnt_zero.mp (of_decide_eq_true e)
      have ce : FN Q (aF Q) = ones := by
        rw [ho]
        unfold FN
        refine cnt_congr (fun i hi => ?_)
        have := c0' i hi
        unfold msB at this
        unfold onB
        cases z1 : fB (buW Q (aF Q)) i <;> cases z2 : decide (rw' i = 1) <;> rw [z1, z2] at this <;> first | rfl | cases this
      rcases q2 with q2 | q2
      · rw [q2] at z; exact z ce
      · omega
theorem c_f100 (H : HOk h 41 0 P L w c) {r : Nat} (hr : r < 6) (he : ∀ i, i < 60 → h.1 (2 + r) i = rw' i) {ones : Nat} (ho : ones = cnt (onB rw') (aF P)) : ∀ (d f t : Nat) (B : Nat → Nat → Int32), t + d = 91 → d < f → RSx B P → ∃ B', f_X7_fell_100 f (nI r) (nI ones) (ffV (mtB P rw') t) (nI (cnt (mtB P rw') t)) (nI t) (setB h 110 B) = some (ffV (mtB P rw') 91, if cnt (mtB P rw') 91 = 0 then setB h 110 B' else wr (setB h 110 B') 0 13 (nI (cnt (mtB P rw') 91))) := by
  have o60 := cnt_le (onB rw') (aF P)
  have h60 := H.1.a60
  intro d
  induction d with
  | zero =>
    intro f t B ht hf R
    obtain ⟨f, rfl⟩ : ∃ g, f = g + 1 := ⟨f - 1, by omega⟩
    obtain rfl : t = 91 := by omega
    have cl := cnt_le (mtB P rw') 91
    refine ⟨B, ?_⟩
    rw [f_X7_fell_100, if_pos (by decide)]
    unfold f_X7_fell_191
    by_cases e : cnt (mtB P rw') 91 = 0
    · rw [if_pos e, if_pos (by rw [e]; decide)]
    · rw [if_neg e, if_neg (nI_nle (by omega) (by omega)), nm_eq]
  | succ d ih =>
    intro f t B ht hf R
    obtain ⟨f, rfl⟩ : ∃ g, f = g + 1 := ⟨f - 1, by omega⟩
    have cl := cnt_le (mtB P rw') t
    obtain ⟨z1, z2⟩ := c_slip H R (t := t) (by omega)
    rw [f_X7_fell_100, if_neg (show ¬ (90 : Int32) < nI t from nI_nlt (a := 90) (by omega) (by omega))]
    unfold f_X7_fell_171 f_X7_fell_174
    rw [nI_1]
    cases e : slI P t with
    | none =>
      obtain ⟨B1, e1, R1⟩ := z2 e
      have qq := ih f (t + 1) B1 (by omega) (by omega) R1
      have m0 : mtB P rw' t = false := by unfold mtB; rw [e]
      rw [cnt, ffV, m0, if_neg (fun z => by cases z.1)] at qq
      rw [e1, Option.bind_some, if_pos rfl]
      exact qq
    | some kv =>
      obtain ⟨B1, e1, R1⟩ := z1 kv e
      have W2 := slI_W H.1 e
      have ks := slI_k e
      have ea : aF (upd P kv.1 kv.2) = aF P := geo_a (up_z (fun z => by rcases ks with h | ⟨y, h⟩ <;> omega)) (up_m (by rcases ks with h | ⟨y, h⟩ <;> omega))
      obtain ⟨B2, v, e2, R2, vb, e3, e4⟩ := c_match W2 R1 hr he (ones := ones) (by rw [ea]; exact ho)
      have qq := ih f (t + 1) B2 (by omega) (by omega) (RSx.of H.2.1 R2 ks)
      have m0 : mtB P rw' t = asB (upd P kv.1 kv.2) rw' := by unfold mtB; rw [e]
      rw [cnt, ffV, m0] at qq
      rw [e1, Option.bind_some, if_neg n1_0, e2, Option.bind_some]
      by_cases ev : v = ones
      · rw [if_pos (by rw [ev]), if_pos (inb_nI hr (by decide)), nI_clamp (by omega), e3 ev, Option.bind_some]
        cases ea : asB (upd P kv.1 kv.2) rw' with
        | false =>
          rw [ea, if_neg (fun z => by cases z.1)] at qq
          rw [if_pos bIf]
          exact qq
        | true =>
          rw [ea, if_pos rfl] at qq
          rw [if_neg (bI_t rfl), nI_1]
          by_cases e0 : cnt (mtB P rw') t = 0
          · rw [if_pos ⟨rfl, e0⟩] at qq
            rw [if_pos (by rw [e0]; rfl)]
            exact qq
          · rw [if_neg (fun z => e0 z.2)] at qq
            rw [if_neg (fun z => e0 ((nI_z (by omega)).mp z))]
            exact qq
      · rw [e4 ev, if_neg (fun z => by cases z.1)] at qq
        rw [if_neg (fun z => ev ((nI_eq vb (by omega)).mp z))]
        exact qq
theorem m_f123 (hW : WF P) (e : ∀ j, j < 152 → g.1 161 j = mkG P L w c j) {r : Nat} (hr : r < 6) (he : ∀ i, i < 60 → g.1 150 (60 * r + i) = rw' i) (h01 : ∀ i, i < aF P → rw' i = 0 ∨ rw' i = 1) : ∀ (d f t : Nat) (s : TT), t + d = 100 → d < f → StG g s → ∃ s', f_X8_fell_123 f (nI r) (ffV (mtB P rw') t) (nI (cnt (mtB P rw') t)) (nI t) s = (if ffV (mtB P rw') 100 = -9 then some (-9, s') else some (ffV (mtB P rw') 100, wr s' 147 2 (nI (cnt (mtB P rw') 100)))) ∧ StG g s' := by
  intro d
  induction d with
  | zero =>
    intro f t s ht hf hs
    obtain ⟨f, rfl⟩ : ∃ g, f = g + 1 := ⟨f - 1, by omega⟩
    obtain rfl : t = 100 := by omega
    refine ⟨s, ?_, hs⟩
    rw [f_X8_fell_123, if_pos (by decide)]
    rfl
  | succ d ih =>
    intro f t s ht hf hs
    obtain ⟨f, rfl⟩ : ∃ g, f = g + 1 := ⟨f - 1, by omega⟩
    have cl := cnt_le (mtB P rw') t
    obtain ⟨z1, z2⟩ := m_slip hs e hW (t := t) (by omega)
    rw [f_X8_fell_123, if_neg (show ¬ (100 : Int32) ≤ nI t from nI_ge (b := 100) (by omega) (by omega))]
    unfold f_X8_fell_166 f_X8_fell_167 f_X8_fell_180 f_X8_fell_183
    rw [nI_1]
    cases es : slI P t with
    | none =>
      obtain ⟨s', qq, hs'⟩ := ih f (t + 1) _ (by omega) (by omega) (Or.inr ⟨P, L, w, c, rfl⟩)
      have m0 : mtB P rw' t = false := by unfold mtB; rw [es]
      rw [cnt, ffV, m0, if_neg (fun z => by cases z.1)] at qq
      refine ⟨s', ?_, hs'⟩
      rw [z2 es, Option.bind_some, if_pos rfl]
      exact qq
    | some kv =>
      have W2 := slI_W hW es
      have ks := slI_k es
      have ea : aF (upd P kv.1 kv.2) = aF P := geo_a (up_z (fun z => by rcases ks with h | ⟨y, h⟩ <;> omega)) (up_m (by rcases ks with h | ⟨y, h⟩ <;> omega))
      have bu := m_builds (h := lk4 g) (b := 608) (L := L) (w := w) (c := c) lk4_ok W2
      have ia := m_isAs (h := lk4 g) (b := 608) (rw' := rw') lk4_ok W2 hr (fun i hi => by
        unfold MSt
        rw [setG_o (by omega), lk4_r (by omega)]
        exact he i hi) (fun i hi => h01 i (by rw [← ea]; exact hi))
      obtain ⟨s', qq, hs'⟩ := ih f (t + 1) _ (by omega) (by omega) (Or.inr ⟨upd P kv.1 kv.2, aF (upd P kv.1 kv.2), buW (upd P kv.1 kv.2) (aF (upd P kv.1 kv.2)), c0, rfl⟩)
      have m0 : mtB P rw' t = asB (upd P kv.1 kv.2) rw' := by unfold mtB; rw [es]
      rw [cnt, ffV, m0] at qq
      refine ⟨s', ?_, hs'⟩
      rw [z1 kv es, Option.bind_some, if_neg n1_0, bu, Option.bind_some]
      show (f_X8_isAs (MSt (lk4 g) 608 (upd P kv.1 kv.2) (aF (upd P kv.1 kv.2)) (buW (upd P kv.1 kv.2) (aF (upd P kv.1 kv.2))) c0) (nI r)).bind _ = _
      rw [ia, Option.bind_some]
      cases ea : asB (upd P kv.1 kv.2) rw' with
      | false =>
        rw [ea, if_neg (fun z => by cases z.1)] at qq
        rw [if_pos bIf, if_pos bIf, nm_eq, show ∀ n : Nat, nI n + 0 = nI (n + 0) from fun n => nI_add n 0]
        exact qq
      | true =>
        rw [ea, if_pos rfl] at qq
        rw [if_neg (bI_t rfl), if_neg (bI_t rfl), if_neg (bI_t rfl), nm_eq, nI_1]
        by_cases e0 : cnt (mtB P rw') t = 0
        · rw [if_pos ⟨rfl, e0⟩] at qq
          rw [if_pos (by rw [e0]; rfl)]
          exact qq
        · rw [if_neg (fun z => e0 z.2)] at qq
          rw [if_neg (fun z => e0 ((nI_z (by omega)).mp z))]
          exact qq
theorem mt_100 (hW : WF P) : cnt (mtB P rw') 100 = cnt (mtB P rw') 91 ∧ ffV (mtB P rw') 100 = ffV (mtB P rw') 91 := by
  have z : ∀ t, 91 ≤ t → t < 100 → mtB P rw' t = false := fun t h1 h2 => by unfold mtB; rw [sl_hi hW h1 h2]
  refine ⟨cnt_flat (by omega) z, ?_⟩
  have st : ∀ d, d ≤ 9 → ffV (mtB P rw') (91 + d) = ffV (mtB P rw') 91 := by
    intro d
    induction d with
    | zero => intro _; rfl
    | succ d ih =>
      intro hd
      rw [show 91 + (d + 1) = (91 + d) + 1 by omega, ffV, z (91 + d) (by omega) (by omega), if_neg (fun z => by cases z.1)]
      exact ih (by omega)
  exact st 9 (by omega)
end INV
