/-! asking out: shares as numbers, the least minutes -/
theorem ob {a x f : Nat} : (a ||| 2 ^ x).testBit f = (a.testBit f || decide (x = f)) := by rw [Nat.testBit_or, Nat.testBit_two_pow]
def fcT (A : aS) (s kn so f : Nat) : Nat := if kn.testBit f = true then (if so.testBit f = true then (A.2 18 (9 * s + f)).toNatClampNeg else 10 - (A.2 18 (9 * s + f)).toNatClampNeg) else 10
def shT (A : aS) (s kn so : Nat) : Nat → Nat
  | 0 => (A.2 17 s).toNatClampNeg
  | f + 1 => shT A s kn so f * fcT A s kn so f
def shN (A : aS) (kn so : Nat) : Nat → Nat
  | 0 => 0
  | s + 1 => shN A kn so s + shT A s kn so (A.1 0)
theorem ch_ok {A : aS} (h : wfPeople A) {s f : Nat} (hs : s < A.1 5) (hf : f < A.1 0) : (A.2 18 (9 * s + f)).toNatClampNeg ≤ 10 ∧ A.2 18 (9 * s + f) = nI (A.2 18 (9 * s + f)).toNatClampNeg := by
  obtain ⟨p, p1, p2⟩ := (h s hs).2 f hf
  rw [p2, nI_clamp (show p < 2 ^ 31 by omega)]
  exact ⟨p1, rfl⟩
theorem fcT_l {A : aS} (h : wfPeople A) {s kn so f : Nat} (hs : s < A.1 5) (hf : f < A.1 0) : facL A s kn so f = lN (fcT A s kn so f) ∧ fcT A s kn so f ≤ 10 := by
  obtain ⟨p1, p2⟩ := ch_ok h hs hf
  unfold facL fcT
  generalize (A.2 18 (9 * s + f)).toNatClampNeg = p at p1 p2
  rw [p2]
  by_cases q : kn.testBit f = true
  · rw [if_pos q, if_pos q]
    by_cases r : so.testBit f = true
    · rw [if_pos r, if_pos r]
      exact ⟨nI_l (by omega), p1⟩
    · rw [if_neg r, if_neg r]
      refine ⟨?_, by omega⟩
      rw [show (10 : Int32) = nI 10 from rfl, pk_sub p1]
      exact nI_l (by omega)
  · rw [if_neg q, if_neg q]
    exact ⟨rfl, Nat.le_refl _⟩
theorem shT_l {A : aS} (h : wfPeople A) {s kn so : Nat} (hs : s < A.1 5) : ∀ f, f ≤ A.1 0 → shF A s kn so f = lN (shT A s kn so f) ∧ shT A s kn so f ≤ 9 * 10 ^ f
  | 0, _ => by
    obtain ⟨w, w1, w2, w3⟩ := (h s hs).1
    show (A.2 17 s).toInt64 = lN (A.2 17 s).toNatClampNeg ∧ (A.2 17 s).toNatClampNeg ≤ 9 * 10 ^ 0
    rw [w3, nI_clamp (show w < 2 ^ 31 by omega)]
    exact ⟨nI_l (by omega), by omega⟩
  | f + 1, hf => by
    obtain ⟨h1, h2⟩ := shT_l h (kn := kn) (so := so) hs f (by omega)
    obtain ⟨h3, h4⟩ := fcT_l h (kn := kn) (so := so) hs (show f < A.1 0 by omega)
    show shF A s kn so f * facL A s kn so f = lN (shT A s kn so f * fcT A s kn so f) ∧ shT A s kn so f * fcT A s kn so f ≤ _
    rw [h1, h3, lN_mul]
    refine ⟨rfl, ?_⟩
    have := Nat.mul_le_mul h2 h4
    rw [Nat.pow_succ]
    omega
theorem shN_l {A : aS} (h : wfPeople A) {kn so : Nat} : ∀ S, S ≤ A.1 5 → shA A kn so S = lN (shN A kn so S) ∧ shN A kn so S ≤ S * (9 * 10 ^ A.1 0)
  | 0, _ => ⟨rfl, Nat.zero_le _⟩
  | S + 1, hS => by
    obtain ⟨h1, h2⟩ := shN_l h (kn := kn) (so := so) S (by omega)
    obtain ⟨h3, h4⟩ := shT_l h (kn := kn) (so := so) (show S < A.1 5 by omega) (A.1 0) (Nat.le_refl _)
    show shA A kn so S + shF A S kn so (A.1 0) = lN (shN A kn so S + shT A S kn so (A.1 0)) ∧ shN A kn so S + shT A S kn so (A.1 0) ≤ _
    rw [h1, h3, lN_add, Nat.succ_mul]
    exact ⟨rfl, by omega⟩
abbrev shR (A : aS) (kn so : Nat) : Nat := shN A kn so (A.1 5)
theorem shR_le {A : aS} (h : wfA A) {kn so : Nat} : shA A kn so (A.1 5) = lN (shR A kn so) ∧ shR A kn so ≤ 36000000000 := by
  have h6 := h.1
  unfold wfNum at h6
  obtain ⟨h1, h2⟩ := shN_l h.2.2.2.2.2.1 (kn := kn) (so := so) (A.1 5) (Nat.le_refl _)
  refine ⟨h1, ?_⟩
  have h3 : 10 ^ A.1 0 ≤ 10 ^ 9 := Nat.pow_le_pow_right (by omega) h6.1.2
  have h4 : (10 : Nat) ^ 9 = 1000000000 := rfl
  have h5 := Nat.mul_le_mul h6.2.2.2.2.2.1 (Nat.mul_le_mul_left 9 h3)
  show shN A kn so (A.1 5) ≤ _
  omega
theorem fcT_split {A : aS} (h : wfPeople A) {s kn so x : Nat} (hs : s < A.1 5) (hx : x < A.1 0) (hk : ¬ kn.testBit x = true) (hb : ¬ so.testBit x = true) : fcT A s kn so x = fcT A s (kn ||| 2 ^ x) so x + fcT A s (kn ||| 2 ^ x) (so ||| 2 ^ x) x := by
  obtain ⟨p1, -⟩ := ch_ok h hs hx
  unfold fcT
  rw [if_neg hk, if_pos (or_bit.mpr (Or.inr rfl)), if_neg hb, if_pos (or_bit.mpr (Or.inr rfl)), if_pos (or_bit.mpr (Or.inr rfl))]
  omega
theorem fcT_same {A : aS} {s kn so x f : Nat} (hf : f ≠ x) : fcT A s (kn ||| 2 ^ x) so f = fcT A s kn so f ∧ fcT A s (kn ||| 2 ^ x) (so ||| 2 ^ x) f = fcT A s kn so f := by
  unfold fcT
  rw [ob, ob, decide_eq_false (fun e => hf e.symm), Bool.or_false, Bool.or_false]
  exact ⟨rfl, rfl⟩
theorem shT_split {A : aS} (h : wfPeople A) {s kn so x : Nat} (hs : s < A.1 5) (hx : x < A.1 0) (hk : ¬ kn.testBit x = true) (hb : ¬ so.testBit x = true) : ∀ f, (f ≤ x → shT A s (kn ||| 2 ^ x) so f = shT A s kn so f ∧ shT A s (kn ||| 2 ^ x) (so ||| 2 ^ x) f = shT A s kn so f) ∧ (x < f → shT A s kn so f = shT A s (kn ||| 2 ^ x) so f + shT A s (kn ||| 2 ^ x) (so ||| 2 ^ x) f)
  | 0 => ⟨fun _ => ⟨rfl, rfl⟩, fun z => absurd z (Nat.not_lt_zero x)⟩
  | f + 1 => by
    obtain ⟨i1, i2⟩ := shT_split h hs hx hk hb f
    have e : ∀ k o, shT A s k o (f + 1) = shT A s k o f * fcT A s k o f := fun _ _ => rfl
    rw [e, e, e]
    refine ⟨fun z => ?_, fun z => ?_⟩
    · obtain ⟨a, b⟩ := i1 (by omega)
      obtain ⟨c, d⟩ := fcT_same (A := A) (s := s) (kn := kn) (so := so) (x := x) (f := f) (by omega)
      rw [a, b, c, d]
      exact ⟨rfl, rfl⟩
    · by_cases q : f = x
      · subst q
        obtain ⟨a, b⟩ := i1 (Nat.le_refl _)
        rw [a, b, fcT_split h hs hx hk hb, Nat.mul_add]
      · obtain ⟨c, d⟩ := fcT_same (A := A) (s := s) (kn := kn) (so := so) (x := x) (f := f) q
        rw [i2 (by omega), c, d, Nat.add_mul]
theorem shR_split {A : aS} (h : wfPeople A) {kn so x : Nat} (hx : x < A.1 0) (hk : ¬ kn.testBit x = true) (hb : ¬ so.testBit x = true) : shR A kn so = shR A (kn ||| 2 ^ x) so + shR A (kn ||| 2 ^ x) (so ||| 2 ^ x) := by
  have key : ∀ S, S ≤ A.1 5 → shN A kn so S = shN A (kn ||| 2 ^ x) so S + shN A (kn ||| 2 ^ x) (so ||| 2 ^ x) S := by
    intro S
    induction S with
    | zero => intro _; rfl
    | succ S ih =>
      intro hS
      show shN A kn so S + shT A S kn so (A.1 0) = shN A (kn ||| 2 ^ x) so S + shT A S (kn ||| 2 ^ x) so (A.1 0) + (shN A (kn ||| 2 ^ x) (so ||| 2 ^ x) S + shT A S (kn ||| 2 ^ x) (so ||| 2 ^ x) (A.1 0))
      rw [ih (by omega), (shT_split h (show S < A.1 5 by omega) hx hk hb (A.1 0)).2 hx]
      omega
  exact key _ (Nat.le_refl _)
/-- what is sure behind one more fact -/
theorem sure_rec {A : aS} {l kn so f : Nat} (h : sdOK A l) (hk : kn < 2 ^ A.1 0) (hs : so < 2 ^ A.1 0) (hsub : so &&& kn = so) (hf : f < A.1 0) (hb : ¬ kn.testBit f = true) : sureV (sdA A l) (2 ^ A.1 0) kn so = if sureV (sdA A l) (2 ^ A.1 0) (kn ||| 2 ^ f) so = sureV (sdA A l) (2 ^ A.1 0) (kn ||| 2 ^ f) (so ||| 2 ^ f) then sureV (sdA A l) (2 ^ A.1 0) (kn ||| 2 ^ f) so else -2 := by
  have hf2 : 2 ^ f < 2 ^ A.1 0 := Nat.pow_lt_pow_right (by omega) hf
  have hs2 : so ||| 2 ^ f < 2 ^ A.1 0 := Nat.or_lt_two_pow hs hf2
  have sb : ∀ i, (so.testBit i && kn.testBit i) = so.testBit i := fun i => by rw [← Nat.testBit_and, hsub]
  have sub1 : so &&& (kn ||| 2 ^ f) = so := by
    apply Nat.eq_of_testBit_eq
    intro i
    have := sb i
    rw [Nat.testBit_and, Nat.testBit_or]
    revert this
    cases so.testBit i <;> cases kn.testBit i <;> cases (2 ^ f).testBit i <;> decide
  have sub2 : (so ||| 2 ^ f) &&& (kn ||| 2 ^ f) = so ||| 2 ^ f := by
    apply Nat.eq_of_testBit_eq
    intro i
    have := sb i
    rw [Nat.testBit_and, Nat.testBit_or, Nat.testBit_or]
    revert this
    cases so.testBit i <;> cases kn.testBit i <;> cases (2 ^ f).testBit i <;> decide
  obtain ⟨t0, f0, -⟩ := sure_cst h hs hsub
  obtain ⟨t1, f1, -⟩ := sure_cst h hs sub1
  obtain ⟨t2, f2, -⟩ := sure_cst h hs2 sub2
  have sp := cst_split (A := A) (l := l) (a := kn) (s := so) hf hb
  have n1 := sdOK_ne h hs
  have n2 := sdOK_ne h hs2
  by_cases c1 : cst A l (kn ||| 2 ^ f) so
  · by_cases c2 : cst A l (kn ||| 2 ^ f) (so ||| 2 ^ f)
    · rw [t1 c1, t2 c2]
      by_cases e : sdA A l so = sdA A l (so ||| 2 ^ f)
      · rw [if_pos e, t0 (sp.mpr ⟨c1, c2, e⟩)]
      · rw [if_neg e, f0 (fun z => e (sp.mp z).2.2)]
    · rw [t1 c1, f2 c2, if_neg n1, f0 (fun z => c2 (sp.mp z).2.1)]
  · rw [f1 c1, f0 (fun z => c1 (sp.mp z).1)]
    split <;> rfl
/-- the least of those that may be asked -/
def mnB (B : Nat) (g : Nat → Nat) (p : Nat → Bool) : Nat → Nat
  | 0 => B
  | k + 1 => if p k = true then min (mnB B g p k) (g k) else mnB B g p k
theorem mnB_le (B : Nat) (g : Nat → Nat) (p : Nat → Bool) {f : Nat} : ∀ k, f < k → p f = true → mnB B g p k ≤ g f
  | 0, h, _ => absurd h (Nat.not_lt_zero f)
  | k + 1, h, hp => by
    unfold mnB
    rcases Nat.lt_succ_iff_lt_or_eq.mp h with q | q
    · have := mnB_le B g p k q hp
      split
      · exact Nat.le_trans (Nat.min_le_left _ _) this
      · exact this
    · subst q
      rw [if_pos hp]
      exact Nat.min_le_right _ _
theorem mnB_top (B : Nat) (g : Nat → Nat) (p : Nat → Bool) : ∀ k, mnB B g p k ≤ B
  | 0 => Nat.le_refl _
  | k + 1 => by
    have ih := mnB_top B g p k
    unfold mnB
    split
    · exact Nat.le_trans (Nat.min_le_left _ _) ih
    · exact ih
theorem mnB_at (B : Nat) (g : Nat → Nat) (p : Nat → Bool) : ∀ k, mnB B g p k = B ∨ ∃ f, f < k ∧ p f = true ∧ g f = mnB B g p k
  | 0 => Or.inl rfl
  | k + 1 => by
    have ih := mnB_at B g p k
    have old : mnB B g p (k + 1) = mnB B g p k → (mnB B g p (k + 1) = B ∨ ∃ f, f < k + 1 ∧ p f = true ∧ g f = mnB B g p (k + 1)) := fun e => by
      rw [e]
      rcases ih with q | ⟨f, f1, f2, f3⟩
      · exact Or.inl q
      · exact Or.inr ⟨f, by omega, f2, f3⟩
    by_cases hp : p k = true
    · have e : mnB B g p (k + 1) = min (mnB B g p k) (g k) := if_pos hp
      by_cases hm : mnB B g p k ≤ g k
      · exact old (by rw [e, Nat.min_eq_left hm])
      · exact Or.inr ⟨k, by omega, hp, by rw [e, Nat.min_eq_right (by omega)]⟩
    · exact old (if_neg hp)
theorem mnB_congr {B : Nat} {g h : Nat → Nat} {p : Nat → Bool} : ∀ k, (∀ f, f < k → p f = true → g f = h f) → mnB B g p k = mnB B h p k
  | 0, _ => rfl
  | k + 1, hh => by
    have ih := mnB_congr (B := B) k (fun f hf hp => hh f (by omega) hp)
    show (if p k = true then min (mnB B g p k) (g k) else mnB B g p k) = if p k = true then min (mnB B h p k) (h k) else mnB B h p k
    rw [ih]
    by_cases hp : p k = true
    · rw [if_pos hp, if_pos hp, hh k (by omega) hp]
    · rw [if_neg hp, if_neg hp]
def isO (A : aS) (l o : Nat) (two : Bool) (kn so : Nat) : Bool := !(sureV (sdA A l) (2 ^ A.1 0) kn so == -2) && (!two || !(sureV (sdA A o) (2 ^ A.1 0) kn so == -2))
def opP (A : aS) (kn f : Nat) : Bool := !kn.testBit f && (A.2 15 f == 0)
abbrev miA (A : aS) (f : Nat) : Nat := (A.2 12 f).toNatClampNeg
def mbyN (sh mi no yes : Nat) : Nat := if 1000000000000000 ≤ no ∨ 1000000000000000 ≤ yes then 1000000000000000 else sh * mi + no + yes
def wbyN (mi no yes : Nat) : Nat := if 1000000 ≤ max no yes then 1000000 else max no yes + mi
def meN (A : aS) (l o : Nat) (two : Bool) : Nat → Nat → Nat → Nat
  | 0, kn, so => if isO A l o two kn so = true then 0 else 1000000000000000
  | d + 1, kn, so => if isO A l o two kn so = true then 0 else mnB 1000000000000000 (fun f => mbyN (shR A kn so) (miA A f) (meN A l o two d (kn ||| 2 ^ f) so) (meN A l o two d (kn ||| 2 ^ f) (so ||| 2 ^ f))) (opP A kn) (A.1 0)
def woN (A : aS) (l o : Nat) (two : Bool) : Nat → Nat → Nat → Nat
  | 0, kn, so => if isO A l o two kn so = true then 0 else 1000000
  | d + 1, kn, so => if isO A l o two kn so = true then 0 else mnB 1000000 (fun f => wbyN (miA A f) (woN A l o two d (kn ||| 2 ^ f) so) (woN A l o two d (kn ||| 2 ^ f) (so ||| 2 ^ f))) (opP A kn) (A.1 0)
theorem opP_iff {A : aS} {kn f : Nat} : opP A kn f = true ↔ ¬ kn.testBit f = true ∧ A.2 15 f = 0 := by
  unfold opP
  rw [Bool.and_eq_true, beq_iff_eq]
  cases kn.testBit f <;> simp
theorem isO_full {A : aS} {l o : Nat} {two : Bool} (hl : sdOK A l) (ho : two = true → sdOK A o) {so : Nat} (hs : so < 2 ^ A.1 0) : isO A l o two (2 ^ A.1 0 - 1) so = true := by
  have hsub : so &&& (2 ^ A.1 0 - 1) = so := by rw [Nat.and_two_pow_sub_one_eq_mod, Nat.mod_eq_of_lt hs]
  have a := (sure_cst hl hs hsub).2.2.mpr cst_full
  unfold isO
  rw [beq_eq_false_iff_ne.mpr a]
  cases two with
  | false => rfl
  | true =>
    have b := (sure_cst (ho rfl) hs hsub).2.2.mpr cst_full
    rw [beq_eq_false_iff_ne.mpr b]
    rfl
theorem sub_or {so kn f : Nat} (hsub : so &&& kn = so) : so &&& (kn ||| 2 ^ f) = so ∧ (so ||| 2 ^ f) &&& (kn ||| 2 ^ f) = so ||| 2 ^ f := by
  have sb : ∀ i, (so.testBit i && kn.testBit i) = so.testBit i := fun i => by rw [← Nat.testBit_and, hsub]
  constructor
  · apply Nat.eq_of_testBit_eq
    intro i
    have := sb i
    rw [Nat.testBit_and, Nat.testBit_or]
    revert this
    cases so.testBit i <;> cases kn.testBit i <;> cases (2 ^ f).testBit i <;> decide
  · apply Nat.eq_of_testBit_eq
    intro i
    have := sb i
    rw [Nat.testBit_and, Nat.testBit_or, Nat.testBit_or]
    revert this
    cases so.testBit i <;> cases kn.testBit i <;> cases (2 ^ f).testBit i <;> decide
theorem meN_up {A : aS} {l o : Nat} {two : Bool} (h9 : A.1 0 ≤ 9) (hl : sdOK A l) (ho : two = true → sdOK A o) : ∀ d kn so, kn < 2 ^ A.1 0 → so < 2 ^ A.1 0 → so &&& kn = so → A.1 0 ≤ popc kn + d → meN A l o two (d + 1) kn so = meN A l o two d kn so ∧ woN A l o two (d + 1) kn so = woN A l o two d kn so
  | 0, kn, so, hk, hs, hsub, hd => by
    have e := full_of h9 hk (by omega)
    have t : isO A l o two kn so = true := by rw [e]; exact isO_full hl ho hs
    unfold meN woN
    rw [if_pos t, if_pos t, if_pos t, if_pos t]
    exact ⟨rfl, rfl⟩
  | d + 1, kn, so, hk, hs, hsub, hd => by
    have hC := two_le h9
    have e1 : ∀ e, meN A l o two (e + 1) kn so = if isO A l o two kn so = true then 0 else mnB 1000000000000000 (fun f => mbyN (shR A kn so) (miA A f) (meN A l o two e (kn ||| 2 ^ f) so) (meN A l o two e (kn ||| 2 ^ f) (so ||| 2 ^ f))) (opP A kn) (A.1 0) := fun _ => rfl
    have e2 : ∀ e, woN A l o two (e + 1) kn so = if isO A l o two kn so = true then 0 else mnB 1000000 (fun f => wbyN (miA A f) (woN A l o two e (kn ||| 2 ^ f) so) (woN A l o two e (kn ||| 2 ^ f) (so ||| 2 ^ f))) (opP A kn) (A.1 0) := fun _ => rfl
    rw [e1, e1, e2, e2]
    by_cases t : isO A l o two kn so = true
    · rw [if_pos t, if_pos t, if_pos t, if_pos t]
      exact ⟨rfl, rfl⟩
    · rw [if_neg t, if_neg t, if_neg t, if_neg t]
      have key : ∀ f, f < A.1 0 → opP A kn f = true → (meN A l o two (d + 1) (kn ||| 2 ^ f) so = meN A l o two d (kn ||| 2 ^ f) so ∧ woN A l o two (d + 1) (kn ||| 2 ^ f) so = woN A l o two d (kn ||| 2 ^ f) so) ∧ (meN A l o two (d + 1) (kn ||| 2 ^ f) (so ||| 2 ^ f) = meN A l o two d (kn ||| 2 ^ f) (so ||| 2 ^ f) ∧ woN A l o two (d + 1) (kn ||| 2 ^ f) (so ||| 2 ^ f) = woN A l o two d (kn ||| 2 ^ f) (so ||| 2 ^ f)) := fun f hf hp => by
        have hb := (opP_iff.mp hp).1
        have hf2 : 2 ^ f < 2 ^ A.1 0 := Nat.pow_lt_pow_right (by omega) hf
        have hk1 : kn ||| 2 ^ f < 2 ^ A.1 0 := Nat.or_lt_two_pow hk hf2
        have hpc := popc_add kn (by omega) f (by omega) (Bool.eq_false_iff.mpr hb)
        exact ⟨meN_up h9 hl ho d _ _ hk1 hs (sub_or hsub).1 (by omega), meN_up h9 hl ho d _ _ hk1 (Nat.or_lt_two_pow hs hf2) (sub_or hsub).2 (by omega)⟩
      refine ⟨mnB_congr _ (fun f hf hp => ?_), mnB_congr _ (fun f hf hp => ?_)⟩
      · obtain ⟨⟨a, -⟩, b, -⟩ := key f hf hp
        show mbyN _ _ (meN A l o two (d + 1) (kn ||| 2 ^ f) so) (meN A l o two (d + 1) (kn ||| 2 ^ f) (so ||| 2 ^ f)) = mbyN _ _ (meN A l o two d (kn ||| 2 ^ f) so) (meN A l o two d (kn ||| 2 ^ f) (so ||| 2 ^ f))
        rw [a, b]
      · obtain ⟨⟨-, a⟩, -, b⟩ := key f hf hp
        show wbyN _ (woN A l o two (d + 1) (kn ||| 2 ^ f) so) (woN A l o two (d + 1) (kn ||| 2 ^ f) (so ||| 2 ^ f)) = wbyN _ (woN A l o two d (kn ||| 2 ^ f) so) (woN A l o two d (kn ||| 2 ^ f) (so ||| 2 ^ f))
        rw [a, b]
abbrev meG (A : aS) (l o : Nat) (two : Bool) (kn so : Nat) : Nat := meN A l o two (A.1 0) kn so
abbrev woG (A : aS) (l o : Nat) (two : Bool) (kn so : Nat) : Nat := woN A l o two (A.1 0) kn so
abbrev mbyA (A : aS) (l o : Nat) (two : Bool) (kn so f : Nat) : Nat := mbyN (shR A kn so) (miA A f) (meG A l o two (kn ||| 2 ^ f) so) (meG A l o two (kn ||| 2 ^ f) (so ||| 2 ^ f))
abbrev wbyA (A : aS) (l o : Nat) (two : Bool) (kn so f : Nat) : Nat := wbyN (miA A f) (woG A l o two (kn ||| 2 ^ f) so) (woG A l o two (kn ||| 2 ^ f) (so ||| 2 ^ f))
theorem meG_eq {A : aS} {l o : Nat} {two : Bool} (h9 : A.1 0 ≤ 9) (hl : sdOK A l) (ho : two = true → sdOK A o) {kn so : Nat} (hk : kn < 2 ^ A.1 0) (hs : so < 2 ^ A.1 0) (hsub : so &&& kn = so) : meG A l o two kn so = (if isO A l o two kn so = true then 0 else mnB 1000000000000000 (mbyA A l o two kn so) (opP A kn) (A.1 0)) ∧ woG A l o two kn so = (if isO A l o two kn so = true then 0 else mnB 1000000 (wbyA A l o two kn so) (opP A kn) (A.1 0)) := by
  obtain ⟨a, b⟩ := meN_up h9 hl ho (A.1 0) kn so hk hs hsub (by omega)
  exact ⟨a.symm, b.symm⟩
theorem meN_le {A : aS} (h : wfA A) {l o : Nat} {two : Bool} : ∀ d kn so, kn < 2 ^ A.1 0 → so &&& kn = so → (meN A l o two d kn so = 1000000000000000 ∨ meN A l o two d kn so ≤ 99 * d * shR A kn so) ∧ (woN A l o two d kn so = 1000000 ∨ woN A l o two d kn so ≤ 99 * d) ∧ (d ≤ 9 → (meN A l o two d kn so = 1000000000000000 ↔ woN A l o two d kn so = 1000000))
  | 0, kn, so, _, _ => by
    unfold meN woN
    by_cases t : isO A l o two kn so = true
    · rw [if_pos t, if_pos t]; exact ⟨Or.inr (Nat.zero_le _), Or.inr (Nat.zero_le _), fun _ => by omega⟩
    · rw [if_neg t, if_neg t]; exact ⟨Or.inl rfl, Or.inl rfl, fun _ => by omega⟩
  | d + 1, kn, so, hk, hsub => by
    have e1 : meN A l o two (d + 1) kn so = if isO A l o two kn so = true then 0 else mnB 1000000000000000 (fun f => mbyN (shR A kn so) (miA A f) (meN A l o two d (kn ||| 2 ^ f) so) (meN A l o two d (kn ||| 2 ^ f) (so ||| 2 ^ f))) (opP A kn) (A.1 0) := rfl
    have e2 : woN A l o two (d + 1) kn so = if isO A l o two kn so = true then 0 else mnB 1000000 (fun f => wbyN (miA A f) (woN A l o two d (kn ||| 2 ^ f) so) (woN A l o two d (kn ||| 2 ^ f) (so ||| 2 ^ f))) (opP A kn) (A.1 0) := rfl
    rw [e1, e2]
    by_cases t : isO A l o two kn so = true
    · rw [if_pos t, if_pos t]; exact ⟨Or.inr (Nat.zero_le _), Or.inr (Nat.zero_le _), fun _ => by omega⟩
    · rw [if_neg t, if_neg t]
      -- one fact asked
      have key : ∀ f, f < A.1 0 → opP A kn f = true → (mbyN (shR A kn so) (miA A f) (meN A l o two d (kn ||| 2 ^ f) so) (meN A l o two d (kn ||| 2 ^ f) (so ||| 2 ^ f)) = 1000000000000000 ∨ mbyN (shR A kn so) (miA A f) (meN A l o two d (kn ||| 2 ^ f) so) (meN A l o two d (kn ||| 2 ^ f) (so ||| 2 ^ f)) ≤ 99 * (d + 1) * shR A kn so) ∧ (wbyN (miA A f) (woN A l o two d (kn ||| 2 ^ f) so) (woN A l o two d (kn ||| 2 ^ f) (so ||| 2 ^ f)) = 1000000 ∨ wbyN (miA A f) (woN A l o two d (kn ||| 2 ^ f) so) (woN A l o two d (kn ||| 2 ^ f) (so ||| 2 ^ f)) ≤ 99 * (d + 1)) ∧ (d + 1 ≤ 9 → (mbyN (shR A kn so) (miA A f) (meN A l o two d (kn ||| 2 ^ f) so) (meN A l o two d (kn ||| 2 ^ f) (so ||| 2 ^ f)) = 1000000000000000 ↔ wbyN (miA A f) (woN A l o two d (kn ||| 2 ^ f) so) (woN A l o two d (kn ||| 2 ^ f) (so ||| 2 ^ f)) = 1000000)) := fun f hf hp => by
        have hb := (opP_iff.mp hp).1
        have hsb : ¬ so.testBit f = true := fun z => hb (bits_sub hsub z)
        have hf2 : 2 ^ f < 2 ^ A.1 0 := Nat.pow_lt_pow_right (by omega) hf
        have hk1 : kn ||| 2 ^ f < 2 ^ A.1 0 := Nat.or_lt_two_pow hk hf2
        obtain ⟨a1, a2, a3⟩ := meN_le h (l := l) (o := o) (two := two) d (kn ||| 2 ^ f) so hk1 (sub_or hsub).1
        obtain ⟨b1, b2, b3⟩ := meN_le h (l := l) (o := o) (two := two) d (kn ||| 2 ^ f) (so ||| 2 ^ f) hk1 (sub_or hsub).2
        have hsp := shR_split h.2.2.2.2.2.1 hf hb hsb
        have hsh := (shR_le h (kn := kn) (so := so)).2
        have hmi : miA A f ≤ 99 := by
          have := (mbF_le h (b := 2 ^ f) hf).1
          unfold mbF at this
          rw [Nat.testBit_two_pow, decide_eq_true rfl, if_pos rfl] at this
          exact this
        generalize meN A l o two d (kn ||| 2 ^ f) so = x at a1 a3 ⊢
        generalize meN A l o two d (kn ||| 2 ^ f) (so ||| 2 ^ f) = y at b1 b3 ⊢
        generalize woN A l o two d (kn ||| 2 ^ f) so = u at a2 a3 ⊢
        generalize woN A l o two d (kn ||| 2 ^ f) (so ||| 2 ^ f) = v at b2 b3 ⊢
        generalize shR A (kn ||| 2 ^ f) so = p at a1 hsp
        generalize shR A (kn ||| 2 ^ f) (so ||| 2 ^ f) = q at b1 hsp
        generalize shR A kn so = s at hsp hsh ⊢
        generalize miA A f = m at hmi ⊢
        have hm := Nat.mul_le_mul_left s hmi
        have hd1 : 99 * (d + 1) * s = 99 * d * p + 99 * d * q + s * 99 := by rw [hsp, Nat.mul_add 99 d 1, Nat.add_mul, Nat.mul_add (99 * d)]; omega
        refine ⟨?_, ?_, fun hd => ?_⟩
        · unfold mbyN
          by_cases z : 1000000000000000 ≤ x ∨ 1000000000000000 ≤ y
          · rw [if_pos z]; exact Or.inl rfl
          · rw [if_neg z]
            refine Or.inr ?_
            omega
        · unfold wbyN
          by_cases z : 1000000 ≤ max u v
          · rw [if_pos z]; exact Or.inl rfl
          · rw [if_neg z]
            refine Or.inr ?_
            omega
        · have a3 := a3 (by omega)
          have b3 := b3 (by omega)
          have h1 : 99 * d * p ≤ 891 * p := Nat.mul_le_mul_right p (by omega)
          have h2 : 99 * d * q ≤ 891 * q := Nat.mul_le_mul_right q (by omega)
          have ex : 1000000000000000 ≤ x ↔ 1000000 ≤ u := by omega
          have ey : 1000000000000000 ≤ y ↔ 1000000 ≤ v := by omega
          unfold mbyN wbyN
          by_cases z : 1000000000000000 ≤ x ∨ 1000000000000000 ≤ y
          · rw [if_pos z, if_pos (by omega)]
            exact ⟨fun _ => rfl, fun _ => rfl⟩
          · rw [if_neg z, if_neg (by omega)]
            constructor
            · intro e; omega
            · intro e; omega
      refine ⟨?_, ?_, fun hd => ?_⟩
      · rcases mnB_at 1000000000000000 (fun f => mbyN (shR A kn so) (miA A f) (meN A l o two d (kn ||| 2 ^ f) so) (meN A l o two d (kn ||| 2 ^ f) (so ||| 2 ^ f))) (opP A kn) (A.1 0) with q | ⟨f, f1, f2, f3⟩
        · exact Or.inl q
        · rw [← f3]
          exact (key f f1 f2).1
      · rcases mnB_at 1000000 (fun f => wbyN (miA A f) (woN A l o two d (kn ||| 2 ^ f) so) (woN A l o two d (kn ||| 2 ^ f) (so ||| 2 ^ f))) (opP A kn) (A.1 0) with q | ⟨f, f1, f2, f3⟩
        · exact Or.inl q
        · rw [← f3]
          exact (key f f1 f2).2.1
      · have t1 := mnB_top 1000000000000000 (fun f => mbyN (shR A kn so) (miA A f) (meN A l o two d (kn ||| 2 ^ f) so) (meN A l o two d (kn ||| 2 ^ f) (so ||| 2 ^ f))) (opP A kn) (A.1 0)
        have t2 := mnB_top 1000000 (fun f => wbyN (miA A f) (woN A l o two d (kn ||| 2 ^ f) so) (woN A l o two d (kn ||| 2 ^ f) (so ||| 2 ^ f))) (opP A kn) (A.1 0)
        constructor
        · intro e
          rcases mnB_at 1000000 (fun f => wbyN (miA A f) (woN A l o two d (kn ||| 2 ^ f) so) (woN A l o two d (kn ||| 2 ^ f) (so ||| 2 ^ f))) (opP A kn) (A.1 0) with q | ⟨f, f1, f2, f3⟩
          · exact q
          · have k3 := (key f f1 f2).2.2 hd
            have k1 := (key f f1 f2).1
            have le := mnB_le 1000000000000000 (fun f => mbyN (shR A kn so) (miA A f) (meN A l o two d (kn ||| 2 ^ f) so) (meN A l o two d (kn ||| 2 ^ f) (so ||| 2 ^ f))) (opP A kn) (A.1 0) f1 f2
            rw [e] at le
            have hsh := (shR_le h (kn := kn) (so := so)).2
            have h1 : 99 * (d + 1) * shR A kn so ≤ 891 * shR A kn so := Nat.mul_le_mul_right _ (by omega)
            rw [← f3]
            exact k3.mp (by rcases k1 with z | z <;> omega)
        · intro e
          rcases mnB_at 1000000000000000 (fun f => mbyN (shR A kn so) (miA A f) (meN A l o two d (kn ||| 2 ^ f) so) (meN A l o two d (kn ||| 2 ^ f) (so ||| 2 ^ f))) (opP A kn) (A.1 0) with q | ⟨f, f1, f2, f3⟩
          · exact q
          · have k3 := (key f f1 f2).2.2 hd
            have k2 := (key f f1 f2).2.1
            have le := mnB_le 1000000 (fun f => wbyN (miA A f) (woN A l o two d (kn ||| 2 ^ f) so) (woN A l o two d (kn ||| 2 ^ f) (so ||| 2 ^ f))) (opP A kn) (A.1 0) f1 f2
            rw [e] at le
            rw [← f3]
            exact k3.mpr (by rcases k2 with z | z <;> omega)
