/-! cost: both sides -/
theorem agrB_iff {kn so c : Nat} : ∀ {n : Nat}, agrB kn so c n = true ↔ ∀ f, f < n → kn.testBit f = true → c.testBit f = so.testBit f
  | 0 => ⟨fun _ f hf => absurd hf (Nat.not_lt_zero f), fun _ => rfl⟩
  | n + 1 => by
    show (agrB kn so c n && (!kn.testBit n || c.testBit n == so.testBit n)) = true ↔ _
    rw [Bool.and_eq_true, agrB_iff (n := n), Bool.or_eq_true, Bool.not_eq_true', beq_iff_eq]
    constructor
    · rintro ⟨h1, h2⟩ f hf hk
      rcases Nat.lt_succ_iff_lt_or_eq.mp hf with q | q
      · exact h1 f q hk
      · subst q
        rcases h2 with h2 | h2
        · rw [hk] at h2; exact absurd h2 (by decide)
        · exact h2
    · intro h
      refine ⟨fun f hf hk => h f (by omega) hk, ?_⟩
      by_cases hk : kn.testBit n = true
      · exact Or.inr (h n (by omega) hk)
      · exact Or.inl (Bool.eq_false_iff.mpr hk)
abbrev shrC (A : aS) (c : Nat) : Int64 := shA A (2 ^ A.1 0 - 1) c (A.1 5)
theorem shA_sum {A : aS} (h : wfPeople A) {kn so : Nat} : ∀ S, S ≤ A.1 5 → shA A kn so S = sumL (fun c => if agrB kn so c (A.1 0) = true then shA A (2 ^ A.1 0 - 1) c S else 0) (2 ^ A.1 0)
  | 0, _ => by
    rw [sumL_congr (g := fun _ => 0) (fun i _ => by split <;> rfl), sumL_zero]
    rfl
  | S + 1, hS => by
    show shA A kn so S + shF A S kn so (A.1 0) = _
    rw [shA_sum h S (by omega), ← share_sum h (kn := kn) (so := so) (show S < A.1 5 by omega) (A.1 0) (Nat.le_refl _), ← sumL_add]
    refine sumL_congr (fun c _ => ?_)
    show _ = if agrB kn so c (A.1 0) = true then shA A (2 ^ A.1 0 - 1) c S + shF A S (2 ^ A.1 0 - 1) c (A.1 0) else 0
    rw [shG_full (A.1 0) (Nat.le_refl _), selL]
    split
    · rfl
    · exact Int64.add_zero _
theorem pathM_add {A : aS} {f c : Nat} : ∀ k m t, pathM A f c k m t = m + pathM A f c k 0 t
  | 0, m, t => rfl
  | k + 1, m, t => by
    unfold pathM
    by_cases h : t < 12
    · rw [if_pos h, if_pos h, pathM_add k (m + miF A f t), pathM_add k (0 + miF A f t)]
      omega
    · rw [if_neg h, if_neg h, Nat.add_zero]
theorem pathM_fuel {A : aS} {f c nm : Nat} (h4 : ∀ t, t < nm → (t < nxF A f c t ∧ nxF A f c t < nm) ∨ (99 ≤ nxF A f c t ∧ nxF A f c t ≤ 105)) : ∀ k k' m t, 12 ≤ t + k → 12 ≤ t + k' → (t < nm ∨ 99 ≤ t) → pathM A f c k m t = pathM A f c k' m t := by
  intro k
  induction k with
  | zero => intro k' m t h1 h2 ht; rw [pathM_big (by omega), pathM_big (by omega)]
  | succ k ih =>
    intro k' m t h1 h2 ht
    by_cases h : t < 12
    · match k', h2 with
      | 0, h2 => omega
      | k' + 1, h2 =>
        unfold pathM
        rw [if_pos h, if_pos h]
        have := h4 t (by omega)
        exact ih k' _ _ (by omega) (by omega) (by omega)
    · rw [pathM_big (by omega), pathM_big (by omega)]
abbrev restC (A : aS) (f c t : Nat) : Nat := pathM A f c 12 0 t
def costT (A : aS) (f t kn so : Nat) : Int64 := sumL (fun c => if agrB kn so c (A.1 0) = true then shrC A c * lN (restC A f c t) else 0) (2 ^ A.1 0)
theorem restC_step {A : aS} {f c nm t : Nat} (h4 : ∀ t, t < nm → (t < nxF A f c t ∧ nxF A f c t < nm) ∨ (99 ≤ nxF A f c t ∧ nxF A f c t ≤ 105)) (ht : t < nm) (hm : nm ≤ 12) : restC A f c t = miF A f t + restC A f c (nxF A f c t) := by
  have e : restC A f c t = pathM A f c 11 (0 + miF A f t) (nxF A f c t) := by
    show (if t < 12 then pathM A f c 11 (0 + miF A f t) (nxF A f c t) else 0) = _
    rw [if_pos (by omega)]
  have := h4 t ht
  rw [e, pathM_add, pathM_fuel h4 11 12 0 _ (by omega) (by omega) (by omega), Nat.zero_add]
theorem costT_end {A : aS} {f t kn so : Nat} (ht : 12 ≤ t) : costT A f t kn so = 0 := by
  unfold costT
  rw [sumL_congr (g := fun _ => 0) (fun c _ => ?_), sumL_zero]
  rw [restC, pathM_big ht]
  split
  · exact Int64.mul_zero
  · rfl
theorem or_bit {kn x i : Nat} : (kn ||| 2 ^ x).testBit i = true ↔ kn.testBit i = true ∨ i = x := by
  rw [Nat.testBit_or, Nat.testBit_two_pow, Bool.or_eq_true, decide_eq_true_iff]
  exact or_congr Iff.rfl ⟨Eq.symm, Eq.symm⟩
theorem agr_yes {kn so c x n : Nat} (hx : x < n) (hk : ¬ kn.testBit x = true) : agrB (kn ||| 2 ^ x) (so ||| 2 ^ x) c n = true ↔ agrB kn so c n = true ∧ c.testBit x = true := by
  have sb : ∀ i, i ≠ x → (so ||| 2 ^ x).testBit i = so.testBit i := fun i hi => by
    rw [Nat.testBit_or, Nat.testBit_two_pow, decide_eq_false (fun z => hi z.symm), Bool.or_false]
  rw [agrB_iff, agrB_iff]
  constructor
  · intro h
    refine ⟨fun f hf hkf => ?_, ?_⟩
    · have hne : f ≠ x := fun e => hk (e ▸ hkf)
      rw [h f hf (or_bit.mpr (Or.inl hkf)), sb f hne]
    · rw [h x hx (or_bit.mpr (Or.inr rfl))]; exact or_bit.mpr (Or.inr rfl)
  · rintro ⟨h1, h2⟩ f hf hkf
    by_cases e : f = x
    · subst e; rw [h2]; exact (or_bit.mpr (Or.inr rfl)).symm
    · rw [sb f e]
      exact h1 f hf ((or_bit.mp hkf).resolve_right e)
theorem agr_no {kn so c x n : Nat} (hx : x < n) (hk : ¬ kn.testBit x = true) (hs : ¬ so.testBit x = true) : agrB (kn ||| 2 ^ x) so c n = true ↔ agrB kn so c n = true ∧ ¬ c.testBit x = true := by
  rw [agrB_iff, agrB_iff]
  constructor
  · intro h
    refine ⟨fun f hf hkf => h f hf (or_bit.mpr (Or.inl hkf)), ?_⟩
    rw [h x hx (or_bit.mpr (Or.inr rfl))]; exact hs
  · rintro ⟨h1, h2⟩ f hf hkf
    by_cases e : f = x
    · subst e; rw [Bool.eq_false_iff.mpr h2, Bool.eq_false_iff.mpr hs]
    · exact h1 f hf ((or_bit.mp hkf).resolve_right e)
theorem costT_two {A : aS} (hp : wfPeople A) {f t kn so x : Nat} (hx : x < A.1 0) (hk : ¬ kn.testBit x = true) (hs : ¬ so.testBit x = true) {yT nT : Nat} (hst : ∀ c, restC A f c t = miF A f t + restC A f c (if c.testBit x = true then yT else nT)) : costT A f t kn so = shA A kn so (A.1 5) * lN (miF A f t) + costT A f yT (kn ||| 2 ^ x) (so ||| 2 ^ x) + costT A f nT (kn ||| 2 ^ x) so := by
  unfold costT
  rw [shA_sum hp (A.1 5) (Nat.le_refl _), ← sumL_mul, ← sumL_add, ← sumL_add]
  refine sumL_congr (fun c hc => ?_)
  rw [hst c, ← lN_add, Int64.mul_add]
  by_cases h1 : agrB kn so c (A.1 0) = true
  · rw [if_pos h1, if_pos h1]
    by_cases h2 : c.testBit x = true
    · rw [if_pos h2, if_pos ((agr_yes hx hk).mpr ⟨h1, h2⟩), if_neg (fun z => ((agr_no hx hk hs).mp z).2 h2), Int64.add_zero]
    · rw [if_neg h2, if_neg (fun z => h2 ((agr_yes hx hk).mp z).2), if_pos ((agr_no hx hk hs).mpr ⟨h1, h2⟩), Int64.add_zero]
  · rw [if_neg h1, if_neg h1, if_neg (fun z => h1 ((agr_yes hx hk).mp z).1), if_neg (fun z => h1 ((agr_no hx hk hs).mp z).1), Int64.zero_mul]
    rfl
theorem costT_one {A : aS} (hp : wfPeople A) {f t kn so x : Nat} (hx : x < A.1 0) (hk : kn.testBit x = true) {yT nT : Nat} (hst : ∀ c, restC A f c t = miF A f t + restC A f c (if c.testBit x = true then yT else nT)) : costT A f t kn so = shA A kn so (A.1 5) * lN (miF A f t) + costT A f (if so.testBit x = true then yT else nT) kn so := by
  unfold costT
  rw [shA_sum hp (A.1 5) (Nat.le_refl _), ← sumL_mul, ← sumL_add]
  refine sumL_congr (fun c hc => ?_)
  rw [hst c, ← lN_add, Int64.mul_add]
  by_cases h1 : agrB kn so c (A.1 0) = true
  · rw [if_pos h1, if_pos h1, if_pos h1, agrB_iff.mp h1 x hx hk]
  · rw [if_neg h1, if_neg h1, if_neg h1, Int64.zero_mul]
    rfl
