/-! least: the fewest boxes by sets, the order -/
theorem minI {a b : Nat} (ha : a < 2 ^ 31) (hb : b < 2 ^ 31) : (if nI a < nI b then nI a else nI b) = nI (min a b) := by
  by_cases h : a < b
  · rw [if_pos ((nI_ltI ha hb).mpr h), Nat.min_eq_left (by omega)]
  · rw [if_neg (fun z => h ((nI_ltI ha hb).mp z)), Nat.min_eq_right (by omega)]
def mnL (g : Nat → Nat) (p : Nat → Bool) : Nat → Nat
  | 0 => 1000000
  | k + 1 => if p k = true then min (mnL g p k) (g k) else mnL g p k
theorem mnL_le (g : Nat → Nat) (p : Nat → Bool) {f : Nat} : ∀ k, f < k → p f = true → mnL g p k ≤ g f
  | 0, h, _ => absurd h (Nat.not_lt_zero f)
  | k + 1, h, hp => by
    unfold mnL
    rcases Nat.lt_succ_iff_lt_or_eq.mp h with q | q
    · have := mnL_le g p k q hp
      split
      · exact Nat.le_trans (Nat.min_le_left _ _) this
      · exact this
    · subst q
      rw [if_pos hp]
      exact Nat.min_le_right _ _
theorem mnL_at (g : Nat → Nat) (p : Nat → Bool) : ∀ k, mnL g p k = 1000000 ∨ ∃ f, f < k ∧ p f = true ∧ g f = mnL g p k
  | 0 => Or.inl rfl
  | k + 1 => by
    have ih := mnL_at g p k
    have old : mnL g p (k + 1) = mnL g p k → (mnL g p (k + 1) = 1000000 ∨ ∃ f, f < k + 1 ∧ p f = true ∧ g f = mnL g p (k + 1)) := fun e => by
      rw [e]
      rcases ih with q | ⟨f, f1, f2, f3⟩
      · exact Or.inl q
      · exact Or.inr ⟨f, by omega, f2, f3⟩
    by_cases hp : p k = true
    · by_cases hm : mnL g p k ≤ g k
      · exact old (by unfold mnL; rw [if_pos hp, Nat.min_eq_left hm]; cases k <;> rfl)
      · refine Or.inr ⟨k, by omega, hp, ?_⟩
        show g k = if p k = true then min (mnL g p k) (g k) else mnL g p k
        rw [if_pos hp, Nat.min_eq_right (by omega)]
    · exact old (if_neg hp)
theorem mnL_congr {g h : Nat → Nat} {p : Nat → Bool} : ∀ k, (∀ f, f < k → p f = true → g f = h f) → mnL g p k = mnL h p k
  | 0, _ => rfl
  | k + 1, hh => by
    have ih := mnL_congr k (fun f hf hp => hh f (by omega) hp)
    show (if p k = true then min (mnL g p k) (g k) else mnL g p k) = if p k = true then min (mnL h p k) (h k) else mnL h p k
    rw [ih]
    by_cases hp : p k = true
    · rw [if_pos hp, if_pos hp, hh k (by omega) hp]
    · rw [if_neg hp, if_neg hp]
abbrev outB (a : Nat) : Nat → Bool := fun f => !a.testBit f
theorem outB_iff {a f : Nat} : outB a f = true ↔ ¬ a.testBit f = true := by
  unfold outB
  cases a.testBit f <;> decide
def lfN (bx : Nat → Nat → Nat) (n : Nat) : Nat → Nat → Nat
  | 0, _ => 0
  | d + 1, a => if a = 2 ^ n - 1 then 0 else mnL (fun f => bx a f + lfN bx n d (a ||| 2 ^ f)) (outB a) n
theorem some_out {n a : Nat} (ha : a < 2 ^ n) (hne : a ≠ 2 ^ n - 1) : ∃ f, f < n ∧ ¬ a.testBit f = true := by
  apply Classical.byContradiction
  intro hn
  apply hne
  apply Nat.eq_of_testBit_eq
  intro i
  rw [Nat.testBit_two_pow_sub_one]
  by_cases hi : i < n
  · rw [decide_eq_true hi]
    exact Classical.byContradiction (fun z => hn ⟨i, hi, z⟩)
  · rw [decide_eq_false hi]
    exact Nat.testBit_lt_two_pow (Nat.lt_of_lt_of_le ha (Nat.pow_le_pow_right (by omega) (by omega)))
theorem or_gt {a f : Nat} (h : ¬ a.testBit f = true) : a < a ||| 2 ^ f := by
  have e : a ||| 2 ^ f = a ^^^ 2 ^ f := (xor_is_or h).symm
  have h1 : a ≤ a ||| 2 ^ f := Nat.left_le_or
  rcases Nat.lt_or_eq_of_le h1 with q | q
  · exact q
  · exfalso
    apply h
    have : (a ||| 2 ^ f).testBit f = true := or_bit.mpr (Or.inr rfl)
    rw [← q] at this
    exact this
theorem lfN_le {bx : Nat → Nat → Nat} {n : Nat} (hb : ∀ a f, bx a f ≤ 512) : ∀ d a, a < 2 ^ n → lfN bx n d a ≤ 512 * d
  | 0, _, _ => Nat.zero_le _
  | d + 1, a, ha => by
    unfold lfN
    by_cases e : a = 2 ^ n - 1
    · rw [if_pos e]; omega
    · rw [if_neg e]
      obtain ⟨f, hf, hp⟩ := some_out ha e
      have h1 := mnL_le (fun f => bx a f + lfN bx n d (a ||| 2 ^ f)) (outB a) n hf (outB_iff.mpr hp)
      have h2 := lfN_le hb d (a ||| 2 ^ f) (Nat.or_lt_two_pow ha (Nat.pow_lt_pow_right (by omega) hf))
      have h3 := hb a f
      exact Nat.le_trans h1 (show bx a f + lfN bx n d (a ||| 2 ^ f) ≤ 512 * (d + 1) by omega)
theorem lfN_up {bx : Nat → Nat → Nat} {n : Nat} : ∀ d a, a < 2 ^ n → 2 ^ n - 1 - a ≤ d → lfN bx n (d + 1) a = lfN bx n d a
  | 0, a, ha, hd => by
    show (if a = 2 ^ n - 1 then 0 else _) = 0
    rw [if_pos (by omega)]
  | d + 1, a, ha, hd => by
    show (if a = 2 ^ n - 1 then 0 else mnL (fun f => bx a f + lfN bx n (d + 1) (a ||| 2 ^ f)) (outB a) n) = (if a = 2 ^ n - 1 then 0 else mnL (fun f => bx a f + lfN bx n d (a ||| 2 ^ f)) (outB a) n)
    by_cases e : a = 2 ^ n - 1
    · rw [if_pos e, if_pos e]
    · rw [if_neg e, if_neg e]
      refine mnL_congr n (fun f hf hp => ?_)
      have hlt : a ||| 2 ^ f < 2 ^ n := Nat.or_lt_two_pow ha (Nat.pow_lt_pow_right (by omega) hf)
      have hgt := or_gt (outB_iff.mp hp)
      show bx a f + lfN bx n (d + 1) (a ||| 2 ^ f) = bx a f + lfN bx n d (a ||| 2 ^ f)
      rw [lfN_up d _ hlt (by omega)]
abbrev lfG (bx : Nat → Nat → Nat) (n a : Nat) : Nat := lfN bx n (2 ^ n) a
theorem lfG_eq {bx : Nat → Nat → Nat} {n a : Nat} (ha : a < 2 ^ n) (hne : a ≠ 2 ^ n - 1) : lfG bx n a = mnL (fun f => bx a f + lfG bx n (a ||| 2 ^ f)) (outB a) n := by
  unfold lfG
  rw [← lfN_up (2 ^ n) a ha (by omega)]
  show (if a = 2 ^ n - 1 then 0 else _) = _
  rw [if_neg hne]
theorem lfG_full {bx : Nat → Nat → Nat} {n : Nat} : lfG bx n (2 ^ n - 1) = 0 := by
  have hp := Nat.two_pow_pos n
  unfold lfG
  rw [← lfN_up (2 ^ n) (2 ^ n - 1) (by omega) (by omega)]
  exact if_pos rfl
theorem lfG_le {bx : Nat → Nat → Nat} {n : Nat} (hn : n ≤ 9) (hb : ∀ a f, bx a f ≤ 512) {a : Nat} (ha : a < 2 ^ n) : lfG bx n a ≤ 262144 := by
  have h1 := lfN_le hb (2 ^ n) a ha
  have h2 := two_le hn
  unfold lfG
  omega
/-- the lowest one that keeps the fewest -/
def nxP (bx : Nat → Nat → Nat) (n a : Nat) : Nat → Bool := fun f => !a.testBit f && (bx a f + lfG bx n (a ||| 2 ^ f) == lfG bx n a)
theorem nxP_iff {bx : Nat → Nat → Nat} {n a f : Nat} : nxP bx n a f = true ↔ ¬ a.testBit f = true ∧ bx a f + lfG bx n (a ||| 2 ^ f) = lfG bx n a := by
  unfold nxP
  rw [Bool.and_eq_true, beq_iff_eq]
  cases a.testBit f <;> simp
def loN (p : Nat → Bool) : Nat → Nat
  | 0 => 0
  | k + 1 => if p 0 = true then 0 else 1 + loN (fun i => p (i + 1)) k
theorem loN_at : ∀ k (p : Nat → Bool), (∃ f, f < k ∧ p f = true) → loN p k < k ∧ p (loN p k) = true ∧ ∀ d, d < loN p k → ¬ p d = true
  | 0, _, ⟨f, h, _⟩ => absurd h (Nat.not_lt_zero f)
  | k + 1, p, ⟨f, h, hp⟩ => by
    unfold loN
    by_cases h0 : p 0 = true
    · rw [if_pos h0]
      exact ⟨by omega, h0, fun d hd => absurd hd (Nat.not_lt_zero d)⟩
    · rw [if_neg h0]
      have hf : f ≠ 0 := fun e => h0 (by rw [← e]; exact hp)
      obtain ⟨a, b, c⟩ := loN_at k (fun i => p (i + 1)) ⟨f - 1, by omega, by show p (f - 1 + 1) = true; rw [show f - 1 + 1 = f by omega]; exact hp⟩
      refine ⟨by omega, by rw [Nat.add_comm]; exact b, fun d hd => ?_⟩
      by_cases hd0 : d = 0
      · rw [hd0]; exact h0
      · have := c (d - 1) (by omega)
        show ¬ p d = true
        have e : d - 1 + 1 = d := by omega
        rw [← e]; exact this
theorem nx_some {bx : Nat → Nat → Nat} {n a : Nat} (hn : n ≤ 9) (hb : ∀ a f, bx a f ≤ 512) (ha : a < 2 ^ n) (hne : a ≠ 2 ^ n - 1) : ∃ f, f < n ∧ nxP bx n a f = true := by
  have hle := lfG_le hn hb ha
  have he := lfG_eq (bx := bx) ha hne
  rcases mnL_at (fun f => bx a f + lfG bx n (a ||| 2 ^ f)) (outB a) n with q | ⟨f, f1, f2, f3⟩
  · rw [q] at he; omega
  · exact ⟨f, f1, nxP_iff.mpr ⟨outB_iff.mp f2, by rw [he]; exact f3⟩⟩
abbrev nxF2 (bx : Nat → Nat → Nat) (n a : Nat) : Nat := loN (nxP bx n a) n
def laN (bx : Nat → Nat → Nat) (n : Nat) : Nat → Nat
  | 0 => 0
  | k + 1 => laN bx n k ||| 2 ^ nxF2 bx n (laN bx n k)
def lnN (bx : Nat → Nat → Nat) (n : Nat) : Nat → Nat
  | 0 => 0
  | k + 1 => n * lnN bx n k + nxF2 bx n (laN bx n k)
theorem popc_add : ∀ m, m < 512 → ∀ d, d < 9 → m.testBit d = false → popc (m ||| 2 ^ d) = popc m + 1 := by decide +kernel
theorem laN_pop {bx : Nat → Nat → Nat} {n : Nat} (hn : n ≤ 9) (hb : ∀ a f, bx a f ≤ 512) : ∀ k, k ≤ n → laN bx n k < 2 ^ n ∧ popc (laN bx n k) = k
  | 0, _ => ⟨Nat.two_pow_pos n, (by decide +kernel : popc 0 = 0)⟩
  | k + 1, hk => by
    obtain ⟨h1, h2⟩ := laN_pop hn hb k (by omega)
    have hC := two_le hn
    have hne : laN bx n k ≠ 2 ^ n - 1 := fun e => by
      rw [e, popc_fulln n (by omega)] at h2
      omega
    obtain ⟨a, b, -⟩ := loN_at n _ (nx_some hn hb h1 hne)
    have hb2 := (nxP_iff.mp b).1
    refine ⟨Nat.or_lt_two_pow h1 (Nat.pow_lt_pow_right (by omega) a), ?_⟩
    show popc (laN bx n k ||| 2 ^ nxF2 bx n (laN bx n k)) = k + 1
    rw [popc_add _ (by omega) _ (by omega) (Bool.eq_false_iff.mpr hb2), h2]
theorem laN_ok {bx : Nat → Nat → Nat} {n k : Nat} (hn : n ≤ 9) (hb : ∀ a f, bx a f ≤ 512) (hk : k < n) : laN bx n k < 2 ^ n ∧ nxF2 bx n (laN bx n k) < n ∧ ¬ (laN bx n k).testBit (nxF2 bx n (laN bx n k)) = true ∧ nxP bx n (laN bx n k) (nxF2 bx n (laN bx n k)) = true ∧ ∀ d, d < nxF2 bx n (laN bx n k) → ¬ nxP bx n (laN bx n k) d = true := by
  obtain ⟨h1, h2⟩ := laN_pop (bx := bx) hn hb k (by omega)
  have hne : laN bx n k ≠ 2 ^ n - 1 := fun e => by
    rw [e, popc_fulln n (by omega)] at h2
    omega
  obtain ⟨a, b, c⟩ := loN_at n _ (nx_some hn hb h1 hne)
  exact ⟨h1, a, (nxP_iff.mp b).1, b, c⟩
def dI : Nat → Int32
  | 0 => -1
  | k + 1 => nI k
theorem dI_of (j : Nat) : nI j + -1 = dI j := by
  cases j with
  | zero => rfl
  | succ k =>
    show nI (k + 1) + -1 = nI k
    have := pk_sub (a := k + 1) (b := 1) (by omega)
    rw [show k + 1 - 1 = k by omega] at this
    rw [← this, Int32.sub_eq_add_neg]
    rfl
theorem dI_sub {j : Nat} (h : 1 ≤ j) : nI j - 1 = dI j := by
  rw [← dI_of, Int32.sub_eq_add_neg]
theorem dI_neg {j : Nat} (h : j < 2 ^ 31) : (dI j < 0 ↔ j = 0) := by
  cases j with
  | zero => exact ⟨fun _ => rfl, fun _ => by decide⟩
  | succ k => exact ⟨fun z => absurd z (nI_pos (by omega)), fun z => absurd z (by omega)⟩
noncomputable abbrev bxA (A : aS) (l : Nat) : Nat → Nat → Nat := boxN A l
theorem bxA_le {A : aS} (h : wfA A) (l a f : Nat) : bxA A l a f ≤ 512 := Nat.le_trans (cntB_le _ _) (two_le h.1.1.2)
noncomputable def leastS (A : aS) (a w : Int32) : Int32 := if okL A a ∧ (¬ w < 0 ∧ ¬ 1 < w) then (if w = 0 then nI (lfG (bxA A a.toNatClampNeg) (A.1 0) 0) else nI (lnN (bxA A a.toNatClampNeg) (A.1 0) (A.1 0))) else -1
