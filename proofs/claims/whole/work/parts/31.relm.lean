/-! THE ABSTRACT STATE A: numbers A.1 (0 facts, 1 bytes, 2 laws, 3 questions, 4 forms, 5 sorts, 6 rulings) and the reference's own tables A.2; RelM: the reference's world holds it. -/
abbrev aS : Type := (Nat → Nat) × jM
def lowb (h : Nat) : Nat := ((List.range 32).find? (fun i => h.testBit i)).getD 32
def outOf (A : aS) (l h : Nat) : Int32 := if h = 0 then -1 else A.2 11 (12 * l + lowb h)
def wfLaws (A : aS) : Prop := ∀ l, l < A.1 2 → ∃ cl : Nat, 1 ≤ cl ∧ cl ≤ 12 ∧ A.2 10 l = nI cl ∧ (∀ k, k < cl → ∃ o : Nat, o ≤ 5 ∧ A.2 11 (12 * l + k) = nI o) ∧ ∀ c, c < 2 ^ A.1 0 → ∃ h : Nat, h < 2 ^ cl ∧ A.2 9 (512 * l + c) = nI h ∧ A.2 8 (512 * l + c) = outOf A l h
def tgtOk (v : Int32) (j nm : Nat) : Prop := (∃ t : Nat, j < t ∧ t < nm ∧ v = nI t) ∨ ∃ s : Nat, s ≤ 6 ∧ v = nI (99 + s)
def wfForms (A : aS) : Prop := ∀ f, f < A.1 4 → ∃ nm : Nat, 1 ≤ nm ∧ nm ≤ 12 ∧ A.2 7 f = nI nm ∧ ∀ j, j < nm → (∃ x : Nat, x < A.1 0 ∧ A.2 4 (12 * f + j) = nI x) ∧ tgtOk (A.2 5 (12 * f + j)) j nm ∧ tgtOk (A.2 6 (12 * f + j)) j nm
def wfSet (A : aS) : Prop := (∀ f, f < A.1 0 → ∃ m : Nat, 1 ≤ m ∧ m ≤ 99 ∧ A.2 12 f = nI m) ∧ (∀ q, q < 10 → ∃ m : Nat, 1 ≤ m ∧ m ≤ 99 ∧ A.2 13 q = nI m) ∧ (∀ q, q < A.1 3 → ∀ c, c < 2 ^ A.1 0 → A.2 14 (512 * q + c) = 0 ∨ A.2 14 (512 * q + c) = 1) ∧ (∀ f, f < A.1 0 → A.2 15 f = 0 ∨ A.2 15 f = 1) ∧ ∀ f, f < A.1 0 → ∃ w : Nat, w ≤ 10 ∧ A.2 16 f = nI w
def wfPeople (A : aS) : Prop := ∀ s, s < A.1 5 → (∃ w : Nat, 1 ≤ w ∧ w ≤ 9 ∧ A.2 17 s = nI w) ∧ ∀ f, f < A.1 0 → ∃ p : Nat, p ≤ 10 ∧ A.2 18 (9 * s + f) = nI p
def wfRules (A : aS) : Prop := ∀ r, r < A.1 6 → (∃ c : Nat, c < 2 ^ A.1 0 ∧ A.2 28 r = nI c) ∧ (A.2 29 r = -1 ∨ ∃ o : Nat, o ≤ 5 ∧ A.2 29 r = nI o)
def wfNum (A : aS) : Prop := (1 ≤ A.1 0 ∧ A.1 0 ≤ 9) ∧ A.1 1 ≤ 160 ∧ A.1 2 ≤ 6 ∧ A.1 3 ≤ 10 ∧ A.1 4 ≤ 6 ∧ A.1 5 ≤ 4 ∧ A.1 6 ≤ 20
def wfHead (A : aS) : Prop := A.2 1 1 = nI (A.1 0) ∧ A.2 1 2 = nI (2 ^ A.1 0) ∧ A.2 1 4 = nI (A.1 1) ∧ A.2 1 25 = nI (A.1 2) ∧ A.2 1 26 = nI (A.1 3) ∧ A.2 1 27 = nI (A.1 4) ∧ A.2 1 31 = nI (A.1 5) ∧ A.2 1 44 = nI (A.1 6)
def wfA (A : aS) : Prop := wfNum A ∧ wfHead A ∧ wfLaws A ∧ wfForms A ∧ wfSet A ∧ wfPeople A ∧ wfRules A
/-- the places of the reference's tables that last -/
def pA (A : aS) (k j : Nat) : Prop := (k = 1 ∧ (j = 1 ∨ j = 2 ∨ j = 4 ∨ j = 25 ∨ j = 26 ∨ j = 27 ∨ j = 31 ∨ j = 44)) ∨ (8 ≤ k ∧ k ≤ 18) ∨ k = 28 ∨ k = 29 ∨ ((k = 4 ∨ k = 5 ∨ k = 6) ∧ j < 72) ∨ (k = 7 ∧ j < 6) ∨ (k = 2 ∧ j < A.1 1)
def RelM (M : jM) (A : aS) : Prop := wfA A ∧ ∀ k j, pA A k j → M k j = A.2 k j
theorem RelM.up {M : jM} {A : aS} (h : RelM M A) {k j : Nat} (v : Int32) (hp : ¬ pA A k j) : RelM (upM M k j v) A := by
  refine ⟨h.1, fun a b hab => ?_⟩
  by_cases hk : a = k
  · subst hk
    rw [upM_same]
    by_cases hj : b = j
    · subst hj; exact absurd hab hp
    · rw [pk_un hj]; exact h.2 a b hab
  · rw [upM_ne M j v hk]; exact h.2 a b hab
theorem RelM.thr {M : jM} {A : aS} (h : RelM M A) (v : Int32) : RelM (upM M 1 0 v) A := h.up v (by unfold pA; omega)
theorem RelM.num {M : jM} {A : aS} (h : RelM M A) : wfNum A := h.1.1
theorem RelM.n1 {M : jM} {A : aS} (h : RelM M A) : 1 ≤ A.1 0 := h.1.1.1.1
theorem RelM.n9 {M : jM} {A : aS} (h : RelM M A) : A.1 0 ≤ 9 := h.1.1.1.2
theorem RelM.facts {M : jM} {A : aS} (h : RelM M A) : M 1 1 = nI (A.1 0) := (h.2 1 1 (by unfold pA; omega)).trans h.1.2.1.1
theorem RelM.cases {M : jM} {A : aS} (h : RelM M A) : M 1 2 = nI (2 ^ A.1 0) := (h.2 1 2 (by unfold pA; omega)).trans h.1.2.1.2.1
theorem RelM.len {M : jM} {A : aS} (h : RelM M A) : M 1 4 = nI (A.1 1) := (h.2 1 4 (by unfold pA; omega)).trans h.1.2.1.2.2.1
theorem RelM.laws {M : jM} {A : aS} (h : RelM M A) : M 1 25 = nI (A.1 2) := (h.2 1 25 (by unfold pA; omega)).trans h.1.2.1.2.2.2.1
theorem RelM.qs {M : jM} {A : aS} (h : RelM M A) : M 1 26 = nI (A.1 3) := (h.2 1 26 (by unfold pA; omega)).trans h.1.2.1.2.2.2.2.1
theorem RelM.forms {M : jM} {A : aS} (h : RelM M A) : M 1 27 = nI (A.1 4) := (h.2 1 27 (by unfold pA; omega)).trans h.1.2.1.2.2.2.2.2.1
theorem RelM.sorts {M : jM} {A : aS} (h : RelM M A) : M 1 31 = nI (A.1 5) := (h.2 1 31 (by unfold pA; omega)).trans h.1.2.1.2.2.2.2.2.2.1
theorem RelM.rules {M : jM} {A : aS} (h : RelM M A) : M 1 44 = nI (A.1 6) := (h.2 1 44 (by unfold pA; omega)).trans h.1.2.1.2.2.2.2.2.2.2
theorem RelM.row {M : jM} {A : aS} (h : RelM M A) {k : Nat} (hk : (8 ≤ k ∧ k ≤ 18) ∨ k = 28 ∨ k = 29) (j : Nat) : M k j = A.2 k j := h.2 k j (by unfold pA; omega)
theorem RelM.node {M : jM} {A : aS} (h : RelM M A) {k j : Nat} (hk : k = 4 ∨ k = 5 ∨ k = 6) (hj : j < 72) : M k j = A.2 k j := h.2 k j (by unfold pA; omega)
theorem RelM.many {M : jM} {A : aS} (h : RelM M A) {j : Nat} (hj : j < 6) : M 7 j = A.2 7 j := h.2 7 j (by unfold pA; omega)
theorem RelM.byte {M : jM} {A : aS} (h : RelM M A) {j : Nat} (hj : j < A.1 1) : M 2 j = A.2 2 j := h.2 2 j (by unfold pA; omega)
theorem two_le {n : Nat} (h : n ≤ 9) : 2 ^ n ≤ 512 := Nat.pow_le_pow_right (by omega) h
theorem RelM.C512 {M : jM} {A : aS} (h : RelM M A) : 2 ^ A.1 0 ≤ 512 := two_le h.n9
/-- an index into rows of 512, of 12 -/
theorem ix512 {l c : Nat} (hl : l < 6) (hc : c < 512) : vp_in ((512 : Int32) * nI l + nI c) 3072 ∧ ((512 : Int32) * nI l + nI c).toNatClampNeg = 512 * l + c := by
  rw [show (512 : Int32) = nI 512 from rfl, pk_mul, nI_add]
  exact ⟨vin (by omega) (by omega), nI_clamp (by omega)⟩
theorem ix512q {l c : Nat} (hl : l < 10) (hc : c < 512) : vp_in ((512 : Int32) * nI l + nI c) 5120 ∧ ((512 : Int32) * nI l + nI c).toNatClampNeg = 512 * l + c := by
  rw [show (512 : Int32) = nI 512 from rfl, pk_mul, nI_add]
  exact ⟨vin (by omega) (by omega), nI_clamp (by omega)⟩
theorem ix12 {l k N : Nat} (hN : N < 2 ^ 31) (h : 12 * l + k < N) : vp_in ((12 : Int32) * nI l + nI k) N ∧ ((12 : Int32) * nI l + nI k).toNatClampNeg = 12 * l + k := by
  rw [show (12 : Int32) = nI 12 from rfl, pk_mul, nI_add]
  exact ⟨vin h hN, nI_clamp (by omega)⟩
theorem ix9 {l k N : Nat} (hN : N < 2 ^ 31) (h : 9 * l + k < N) : vp_in ((9 : Int32) * nI l + nI k) N ∧ ((9 : Int32) * nI l + nI k).toNatClampNeg = 9 * l + k := by
  rw [show (9 : Int32) = nI 9 from rfl, pk_mul, nI_add]
  exact ⟨vin h hN, nI_clamp (by omega)⟩
abbrev okL (A : aS) (a : Int32) : Prop := ¬ a < 0 ∧ ¬ nI (A.1 2) ≤ a
abbrev okF (A : aS) (a : Int32) : Prop := ¬ a < 0 ∧ ¬ nI (A.1 4) ≤ a
abbrev okQ (A : aS) (a : Int32) : Prop := ¬ a < 0 ∧ ¬ nI (A.1 3) ≤ a
abbrev okC (A : aS) (a : Int32) : Prop := ¬ a < 0 ∧ ¬ nI (2 ^ A.1 0) ≤ a
abbrev okN (A : aS) (a : Int32) : Prop := ¬ a < 0 ∧ ¬ nI (A.1 0) ≤ a
theorem okL_of {M : jM} {A : aS} (h : RelM M A) {a : Int32} (ha : okL A a) : ∃ l, l < A.1 2 ∧ l < 6 ∧ a = nI l := by
  have := h.num
  unfold wfNum at this
  obtain ⟨l, h1, h2⟩ := (ok3 (by omega)).mp ha
  exact ⟨l, h1, by omega, h2⟩
theorem okF_of {M : jM} {A : aS} (h : RelM M A) {a : Int32} (ha : okF A a) : ∃ l, l < A.1 4 ∧ l < 6 ∧ a = nI l := by
  have := h.num
  unfold wfNum at this
  obtain ⟨l, h1, h2⟩ := (ok3 (by omega)).mp ha
  exact ⟨l, h1, by omega, h2⟩
theorem okQ_of {M : jM} {A : aS} (h : RelM M A) {a : Int32} (ha : okQ A a) : ∃ l, l < A.1 3 ∧ l < 10 ∧ a = nI l := by
  have := h.num
  unfold wfNum at this
  obtain ⟨l, h1, h2⟩ := (ok3 (by omega)).mp ha
  exact ⟨l, h1, by omega, h2⟩
theorem okC_of {M : jM} {A : aS} (h : RelM M A) {a : Int32} (ha : okC A a) : ∃ c, c < 2 ^ A.1 0 ∧ c < 512 ∧ a = nI c := by
  have := h.C512
  obtain ⟨l, h1, h2⟩ := (ok3 (by omega)).mp ha
  exact ⟨l, h1, by omega, h2⟩
theorem okN_of {M : jM} {A : aS} (h : RelM M A) {a : Int32} (ha : okN A a) : ∃ c, c < A.1 0 ∧ c < 9 ∧ a = nI c := by
  have := h.n9
  obtain ⟨l, h1, h2⟩ := (ok3 (by omega)).mp ha
  exact ⟨l, h1, by omega, h2⟩
section S12
variable {P : jP} {Q : Int32 → Prop} {a b : Int32}
theorem s12_isLaw {M : jM} {A : aS} (h : RelM M A) (hq : Q (bi (okL A a))) : w_X12_isLaw P a M Q := by
  unfold w_X12_isLaw; rw [h.laws]; exact chk2 hq
theorem s12_isForm {M : jM} {A : aS} (h : RelM M A) (hq : Q (bi (okF A a))) : w_X12_isForm P a M Q := by
  unfold w_X12_isForm; rw [h.forms]; exact chk2 hq
theorem s12_isQuestion {M : jM} {A : aS} (h : RelM M A) (hq : Q (bi (okQ A a))) : w_X12_isQuestion P a M Q := by
  unfold w_X12_isQuestion; rw [h.qs]; exact chk2 hq
theorem s12_isCase {M : jM} {A : aS} (h : RelM M A) (hq : Q (bi (okC A a))) : w_X12_isCase P a M Q := by
  unfold w_X12_isCase; rw [h.cases]; exact chk2 hq
theorem s12_isFactNumber {M : jM} {A : aS} (h : RelM M A) (hq : Q (bi (okN A a))) : w_X12_isFactNumber P a M Q := by
  unfold w_X12_isFactNumber; rw [h.facts]; exact chk2 hq
theorem s12_isIn {lo hi : Int32} (hq : Q (bi (¬ a < lo ∧ ¬ hi < a))) : w_X12_isIn P a lo hi Q := chk2 hq
theorem s12_saidOn {M : jM} {A : aS} (h : RelM M A) {l c : Nat} (hl : l < 6) (hc : c < 512) (hq : Q (A.2 8 (512 * l + c))) : w_X12_saidOn P (nI l) (nI c) M Q := by
  unfold w_X12_saidOn
  rw [(ix512 hl hc).2, h.row (by omega)]
  exact ⟨(ix512 hl hc).1, hq⟩
end S12
theorem nI_eqI {a b : Nat} (ha : a < 2 ^ 31) (hb : b < 2 ^ 31) : nI a = nI b ↔ a = b := nI_eq ha hb
/-- SURE: what is said on all that agree, or -2 -/
def sureV (sd : Nat → Int32) (C kn so : Nat) : Int32 := if ∀ c, c < C → c &&& kn = so → sd c = sd so then sd so else -2
abbrev sdA (A : aS) (l : Nat) : Nat → Int32 := fun c => A.2 8 (512 * l + c)
theorem s12_sureOf {P : jP} {M : jM} {A : aS} (h : RelM M A) {Q : Int32 → Prop} {l kn so : Nat} (hl : l < 6) (hk : kn < 512) (hs : so < 512) (hq : Q (sureV (sdA A l) (2 ^ A.1 0) kn so)) : w_X12_sureOf P (nI l) (nI kn) (nI so) M Q := by
  have hC := h.C512
  unfold w_X12_sureOf
  refine s12_saidOn h hl hs ?_
  rw [h.cases]
  intro R11 hR
  refine lp_up (R := fun i => (∀ c, c < i → c &&& kn = so → sdA A l c = sdA A l so) → R11 (nI i)) (2 ^ A.1 0) ?_ ?_ 0 (Nat.zero_le _) (fun c hc => absurd hc (Nat.not_lt_zero c))
  · intro hall
    refine hR _ (br_t (nI_le (Nat.le_refl _) (by omega)) ?_)
    rw [sureV, if_pos hall] at hq
    exact hq
  · intro i hi ih hall
    refine hR _ (br_f (nI_ge hi (by omega)) ?_)
    intro R43 h43
    rw [nI_and, nI_1] at *
    refine bn_c (fun hne => h43 (ih (fun c hc e => ?_))) (fun heq => ?_)
    · rcases Nat.lt_succ_iff_lt_or_eq.mp hc with h1 | h1
      · exact hall c h1 e
      · subst h1; exact absurd (by rw [e]) hne
    · have he : i &&& kn = so := (nI_eq (Nat.lt_of_le_of_lt Nat.and_le_left (by omega)) (by omega)).mp heq
      refine s12_saidOn h hl (by omega) (br_c (fun e => h43 (ih (fun c hc e2 => ?_))) (fun hne => ?_))
      · rcases Nat.lt_succ_iff_lt_or_eq.mp hc with h1 | h1
        · exact hall c h1 e2
        · subst h1; exact e
      · rw [sureV, if_neg (fun z => hne (z i hi he))] at hq
        exact hq
