/-! ways: places apart, what goes on behind one more fact -/
theorem if_mul (b : Bool) (x : Nat) : (if b = true then x else 0) = x * (if b = true then 1 else 0) := by
  cases b <;> simp
theorem dig_eq {x r1 r2 d1 d2 : Nat} (h1 : r1 < x) (h2 : r2 < x) (e : r1 + x * d1 = r2 + x * d2) : d1 = d2 ∧ r1 = r2 := by
  have hx : 0 < x := by omega
  have a := congrArg (fun z => z / x) e
  have b := congrArg (fun z => z % x) e
  simp only [Nat.add_mul_div_left _ _ hx, Nat.add_mul_mod_self_left, Nat.div_eq_of_lt h1, Nat.div_eq_of_lt h2, Nat.mod_eq_of_lt h1, Nat.mod_eq_of_lt h2] at a b
  exact ⟨by omega, b⟩
theorem place_dig {k1 s1 k2 s2 : Nat} (h1 : s1 &&& k1 = s1) (h2 : s2 &&& k2 = s2) : ∀ i, sum3N k1 i + sum3N s1 i = sum3N k2 i + sum3N s2 i → ∀ j, j < i → k1.testBit j = k2.testBit j ∧ s1.testBit j = s2.testBit j
  | 0, _, j, hj => absurd hj (Nat.not_lt_zero j)
  | i + 1, e, j, hj => by
    have e : sum3N k1 i + (if k1.testBit i = true then 3 ^ i else 0) + (sum3N s1 i + (if s1.testBit i = true then 3 ^ i else 0)) = sum3N k2 i + (if k2.testBit i = true then 3 ^ i else 0) + (sum3N s2 i + (if s2.testBit i = true then 3 ^ i else 0)) := e
    rw [if_mul (k1.testBit i) (3 ^ i), if_mul (s1.testBit i) (3 ^ i), if_mul (k2.testBit i) (3 ^ i), if_mul (s2.testBit i) (3 ^ i)] at e
    have a1 := sum3N_le k1 i
    have a2 := sum3N_le s1 i
    have a3 := sum3N_le k2 i
    have a4 := sum3N_le s2 i
    obtain ⟨d, r⟩ := dig_eq (x := 3 ^ i) (r1 := sum3N k1 i + sum3N s1 i) (r2 := sum3N k2 i + sum3N s2 i) (d1 := (if k1.testBit i = true then 1 else 0) + (if s1.testBit i = true then 1 else 0)) (d2 := (if k2.testBit i = true then 1 else 0) + (if s2.testBit i = true then 1 else 0)) (by omega) (by omega) (by rw [Nat.mul_add, Nat.mul_add]; omega)
    rcases Nat.lt_succ_iff_lt_or_eq.mp hj with q | q
    · exact place_dig h1 h2 i r j q
    · subst q
      have i1 : s1.testBit j = true → k1.testBit j = true := fun z => bits_sub h1 z
      have i2 : s2.testBit j = true → k2.testBit j = true := fun z => bits_sub h2 z
      revert d i1 i2
      cases k1.testBit j <;> cases s1.testBit j <;> cases k2.testBit j <;> cases s2.testBit j <;> decide
theorem place_inj {k1 s1 k2 s2 : Nat} (hk1 : k1 < 512) (hk2 : k2 < 512) (h1 : s1 &&& k1 = s1) (h2 : s2 &&& k2 = s2) (e : sum3 k1 + sum3 s1 = sum3 k2 + sum3 s2) : k1 = k2 ∧ s1 = s2 := by
  have hs1 : s1 < 512 := by rw [← h1]; exact Nat.lt_of_le_of_lt Nat.and_le_right hk1
  have hs2 : s2 < 512 := by rw [← h2]; exact Nat.lt_of_le_of_lt Nat.and_le_right hk2
  have key := place_dig h1 h2 9 e
  have big : ∀ x i, x < 512 → ¬ i < 9 → x.testBit i = false := fun x i hx hi => Nat.testBit_lt_two_pow (Nat.lt_of_lt_of_le hx (show 512 ≤ 2 ^ i from Nat.pow_le_pow_right (n := 2) (by omega) (show 9 ≤ i by omega)))
  constructor
  · apply Nat.eq_of_testBit_eq
    intro i
    by_cases hi : i < 9
    · exact (key i hi).1
    · rw [big k1 i hk1 hi, big k2 i hk2 hi]
  · apply Nat.eq_of_testBit_eq
    intro i
    by_cases hi : i < 9
    · exact (key i hi).2
    · rw [big s1 i hs1 hi, big s2 i hs2 hi]
/-- r without f -/
theorem without {r a f : Nat} (h : r &&& a = 0) (hf : r.testBit f = true) (hb : ¬ a.testBit f = true) : 2 ^ f ||| (r ^^^ 2 ^ f) = r ∧ (r ^^^ 2 ^ f) &&& (a ||| 2 ^ f) = 0 := by
  have e : ∀ i, (r.testBit i && a.testBit i) = false := fun i => by
    have := congrArg (fun x => x.testBit i) h
    simp only [Nat.testBit_and, Nat.zero_testBit] at this
    exact this
  constructor
  · apply Nat.eq_of_testBit_eq
    intro i
    rw [Nat.testBit_or, Nat.testBit_xor, Nat.testBit_two_pow]
    by_cases ei : f = i
    · subst ei; rw [hf, decide_eq_true rfl]; rfl
    · rw [decide_eq_false ei]; cases r.testBit i <;> rfl
  · apply Nat.eq_of_testBit_eq
    intro i
    have ee := e i
    rw [Nat.testBit_and, Nat.testBit_or, Nat.testBit_xor, Nat.testBit_two_pow, Nat.zero_testBit]
    by_cases ei : f = i
    · subst ei; rw [hf, decide_eq_true rfl]; rfl
    · rw [decide_eq_false ei]
      revert ee
      cases r.testBit i <;> cases a.testBit i <;> decide
theorem and_or_f {r a f : Nat} (h : r &&& a = 0) (hf : ¬ r.testBit f = true) : r &&& (a ||| 2 ^ f) = 0 := by
  apply Nat.eq_of_testBit_eq
  intro i
  have e := congrArg (fun x => x.testBit i) h
  simp only [Nat.testBit_and, Nat.testBit_or, Nat.zero_testBit, Nat.testBit_two_pow] at e ⊢
  by_cases ei : f = i
  · subst ei; rw [Bool.eq_false_iff.mpr hf]; rfl
  · rw [decide_eq_false ei, Bool.or_false]; exact e
theorem alk_split {A : aS} {l a s t f : Nat} (hf : f < A.1 0) (hb : ¬ a.testBit f = true) : alk A l a s t ↔ alk A l (a ||| 2 ^ f) s t ∧ alk A l (a ||| 2 ^ f) (s ||| 2 ^ f) (t ||| 2 ^ f) := by
  have hf2 : 2 ^ f < 2 ^ A.1 0 := Nat.pow_lt_pow_right (by omega) hf
  constructor
  · intro h
    refine ⟨fun r hr hz => h r hr (and_or_0 hz), fun r hr hz => ?_⟩
    rw [Nat.or_assoc, Nat.or_assoc]
    exact h _ (Nat.or_lt_two_pow hf2 hr) (bit_or_0 (and_or_0 hz) hb)
  · rintro ⟨h1, h2⟩ r hr hz
    by_cases q : r.testBit f = true
    · obtain ⟨w1, w2⟩ := without hz q hb
      have := h2 (r ^^^ 2 ^ f) (Nat.xor_lt_two_pow hr hf2) w2
      rw [Nat.or_assoc, Nat.or_assoc, w1] at this
      exact this
    · exact h1 r hr (and_or_f hz q)
/-- what is said goes on the same -/
def cst (A : aS) (l a s : Nat) : Prop := ∀ r, r < 2 ^ A.1 0 → r &&& a = 0 → sdA A l (s ||| r) = sdA A l s
theorem cst_split {A : aS} {l a s f : Nat} (hf : f < A.1 0) (hb : ¬ a.testBit f = true) : cst A l a s ↔ cst A l (a ||| 2 ^ f) s ∧ cst A l (a ||| 2 ^ f) (s ||| 2 ^ f) ∧ sdA A l s = sdA A l (s ||| 2 ^ f) := by
  have hf2 : 2 ^ f < 2 ^ A.1 0 := Nat.pow_lt_pow_right (by omega) hf
  have z0 : (2 ^ f : Nat) &&& a = 0 := by
    have := bit_or_0 (r := 0) (a := a) (f := f) (Nat.zero_and a) hb
    rw [Nat.or_zero] at this
    exact this
  constructor
  · intro h
    have e := h (2 ^ f) hf2 z0
    refine ⟨fun r hr hz => h r hr (and_or_0 hz), fun r hr hz => ?_, e.symm⟩
    rw [Nat.or_assoc, e]
    exact h _ (Nat.or_lt_two_pow hf2 hr) (bit_or_0 (and_or_0 hz) hb)
  · rintro ⟨h1, h2, h3⟩ r hr hz
    by_cases q : r.testBit f = true
    · obtain ⟨w1, w2⟩ := without hz q hb
      have := h2 (r ^^^ 2 ^ f) (Nat.xor_lt_two_pow hr hf2) w2
      rw [Nat.or_assoc, w1] at this
      rw [this, h3]
    · exact h1 r hr (and_or_f hz q)
theorem cst_sure {A : aS} {l kn so : Nat} (hs : so < 2 ^ A.1 0) (hsub : so &&& kn = so) : (∀ c, c < 2 ^ A.1 0 → c &&& kn = so → sdA A l c = sdA A l so) ↔ cst A l kn so := by
  constructor
  · intro h r hr hz
    refine h _ (Nat.or_lt_two_pow hs hr) ?_
    apply Nat.eq_of_testBit_eq
    intro i
    have e1 := congrArg (fun x => x.testBit i) hz
    have e2 := congrArg (fun x => x.testBit i) hsub
    simp only [Nat.testBit_and, Nat.testBit_or, Nat.zero_testBit] at e1 e2 ⊢
    revert e1 e2
    cases so.testBit i <;> cases kn.testBit i <;> cases r.testBit i <;> decide
  · intro h c hc e
    have e3 : so ||| (c ^^^ so) = c := by
      apply Nat.eq_of_testBit_eq
      intro i
      have e1 := congrArg (fun x => x.testBit i) e
      simp only [Nat.testBit_and, Nat.testBit_or, Nat.testBit_xor] at e1 ⊢
      revert e1
      cases so.testBit i <;> cases kn.testBit i <;> cases c.testBit i <;> decide
    have := h (c ^^^ so) (Nat.xor_lt_two_pow hc hs) (by
      apply Nat.eq_of_testBit_eq
      intro i
      have e1 := congrArg (fun x => x.testBit i) e
      simp only [Nat.testBit_and, Nat.testBit_xor, Nat.zero_testBit] at e1 ⊢
      revert e1
      cases so.testBit i <;> cases kn.testBit i <;> cases c.testBit i <;> decide)
    rw [e3] at this
    exact this
def sdOK (A : aS) (l : Nat) : Prop := ∀ c, c < 2 ^ A.1 0 → ∃ v : Nat, v ≤ 6 ∧ sdA A l c + 1 = nI v
theorem sdOK_ne {A : aS} {l c : Nat} (h : sdOK A l) (hc : c < 2 ^ A.1 0) : sdA A l c ≠ -2 := fun e => by
  obtain ⟨v, v1, v2⟩ := h c hc
  rw [e] at v2
  exact absurd v2.symm (nI_ne1 (by omega))
theorem sdOK_sub {A : aS} {l c v : Nat} (e : sdA A l c + 1 = nI v) : nI v - 1 = sdA A l c := by rw [← e]; exact Int32.add_sub_cancel _ _
theorem sure_cst {A : aS} {l kn so : Nat} (h : sdOK A l) (hs : so < 2 ^ A.1 0) (hsub : so &&& kn = so) : (cst A l kn so → sureV (sdA A l) (2 ^ A.1 0) kn so = sdA A l so) ∧ (¬ cst A l kn so → sureV (sdA A l) (2 ^ A.1 0) kn so = -2) ∧ (sureV (sdA A l) (2 ^ A.1 0) kn so ≠ -2 ↔ cst A l kn so) := by
  have t : cst A l kn so → sureV (sdA A l) (2 ^ A.1 0) kn so = sdA A l so := fun c => by rw [sureV, if_pos ((cst_sure hs hsub).mpr c)]
  have f : ¬ cst A l kn so → sureV (sdA A l) (2 ^ A.1 0) kn so = -2 := fun c => by rw [sureV, if_neg (fun z => c ((cst_sure hs hsub).mp z))]
  refine ⟨t, f, fun z => Classical.byContradiction (fun c => z (f c)), fun c => ?_⟩
  rw [t c]
  exact sdOK_ne h hs
/-- the ways from one set of known facts stand -/
def waysOK (M : jM) (A : aS) (l kn : Nat) : Prop := (∀ so, so < 2 ^ A.1 0 → so &&& kn = so → ∃ v : Nat, v < sideN (A.1 0) ∧ M (64 + 8 * l + 4) (sum3 kn + sum3 so) = nI v ∧ ((v < 7 ∧ cst A l kn so ∧ sdA A l so + 1 = nI v) ∨ (7 ≤ v ∧ ¬ cst A l kn so))) ∧ ∀ s t, s < 2 ^ A.1 0 → t < 2 ^ A.1 0 → s &&& kn = s → t &&& kn = t → (M (64 + 8 * l + 4) (sum3 kn + sum3 s) = M (64 + 8 * l + 4) (sum3 kn + sum3 t) ↔ alk A l kn s t)
theorem ways_all {M : jM} {A : aS} {l : Nat} (h : sdOK A l) (h9 : A.1 0 ≤ 9) (hw : ∀ kn, kn < 2 ^ A.1 0 → waysOK M A l kn) : WayS M A l ∧ WayE M A l ∧ WayB M A l := by
  refine ⟨fun kn so hk hs hsub => ?_, fun kn s t hk hs ht h1 h2 => (hw kn hk).2 s t hs ht h1 h2, fun kn so hk hs hsub => ?_⟩
  · obtain ⟨v, v1, v2, v3⟩ := (hw kn hk).1 so hs hsub
    have hsd := side_le h9
    obtain ⟨t, f, i⟩ := sure_cst h hs hsub
    refine ⟨v, by omega, v2, ?_⟩
    rcases v3 with ⟨a, b, c⟩ | ⟨a, b⟩
    · exact Or.inl ⟨a, by rw [t b]; exact sdOK_sub c, i.mpr b⟩
    · exact Or.inr ⟨a, f b⟩
  · obtain ⟨v, v1, v2, -⟩ := (hw kn hk).1 so hs hsub
    exact ⟨v, v1, v2⟩
