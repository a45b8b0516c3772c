/-! cost: a share is the sum of the shares of the cases that agree -/
def sumL (g : Nat → Int64) : Nat → Int64
  | 0 => 0
  | n + 1 => sumL g n + g n
theorem sumL_congr {f g : Nat → Int64} : ∀ {n : Nat}, (∀ i, i < n → f i = g i) → sumL f n = sumL g n
  | 0, _ => rfl
  | n + 1, h => by
    show sumL f n + f n = sumL g n + g n
    rw [sumL_congr (fun i hi => h i (by omega)), h n (by omega)]
theorem sumL_split (f : Nat → Int64) (s : Nat) : ∀ k, sumL f (s + k) = sumL f s + sumL (fun i => f (s + i)) k
  | 0 => (Int64.add_zero _).symm
  | k + 1 => by
    show sumL f (s + k) + f (s + k) = sumL f s + (sumL _ k + f (s + k))
    rw [sumL_split f s k, Int64.add_assoc]
theorem sumL_mul (f : Nat → Int64) (v : Int64) : ∀ n, sumL (fun i => f i * v) n = sumL f n * v
  | 0 => (Int64.zero_mul).symm
  | n + 1 => by
    show sumL _ n + f n * v = (sumL f n + f n) * v
    rw [sumL_mul f v n, Int64.add_mul]
theorem sumL_add (f g : Nat → Int64) : ∀ n, sumL (fun i => f i + g i) n = sumL f n + sumL g n
  | 0 => (Int64.add_zero _).symm
  | n + 1 => by
    show sumL _ n + (f n + g n) = sumL f n + f n + (sumL g n + g n)
    rw [sumL_add f g n, Int64.add_assoc, Int64.add_assoc, ← Int64.add_assoc (sumL g n), Int64.add_comm (sumL g n) (f n), Int64.add_assoc]
theorem sumL_zero : ∀ n, sumL (fun _ => 0) n = 0
  | 0 => rfl
  | n + 1 => by
    show sumL _ n + 0 = 0
    rw [sumL_zero n, Int64.add_zero]
def fcL (A : aS) (s : Nat) (b : Bool) (f : Nat) : Int64 := if b = true then (A.2 18 (9 * s + f)).toInt64 else (10 - A.2 18 (9 * s + f)).toInt64
def shG (A : aS) (s c : Nat) : Nat → Int64
  | 0 => (A.2 17 s).toInt64
  | f + 1 => shG A s c f * fcL A s (c.testBit f) f
def agrB (kn so c : Nat) : Nat → Bool
  | 0 => true
  | f + 1 => agrB kn so c f && (!kn.testBit f || c.testBit f == so.testBit f)
theorem shG_full {A : aS} {s c : Nat} : ∀ n, n ≤ A.1 0 → shF A s (2 ^ A.1 0 - 1) c n = shG A s c n
  | 0, _ => rfl
  | n + 1, h => by
    show shF A s (2 ^ A.1 0 - 1) c n * facL A s (2 ^ A.1 0 - 1) c n = shG A s c n * fcL A s (c.testBit n) n
    rw [shG_full n (by omega), facL, if_pos (full_bit (by omega)), fcL]
theorem agrB_congr {kn so c d : Nat} : ∀ {n : Nat}, (∀ f, f < n → c.testBit f = d.testBit f) → agrB kn so c n = agrB kn so d n
  | 0, _ => rfl
  | n + 1, h => by
    show (agrB kn so c n && _) = (agrB kn so d n && _)
    rw [agrB_congr (fun f hf => h f (by omega)), h n (by omega)]
theorem shG_congr {A : aS} {s c d : Nat} : ∀ {n : Nat}, (∀ f, f < n → c.testBit f = d.testBit f) → shG A s c n = shG A s d n
  | 0, _ => rfl
  | n + 1, h => by
    show shG A s c n * fcL A s (c.testBit n) n = shG A s d n * fcL A s (d.testBit n) n
    rw [shG_congr (fun f hf => h f (by omega)), h n (by omega)]
theorem fc_ten {A : aS} (h : wfPeople A) {s f : Nat} (hs : s < A.1 5) (hf : f < A.1 0) : fcL A s false f + fcL A s true f = 10 := by
  obtain ⟨-, h2⟩ := h s hs
  obtain ⟨p, hp, e⟩ := h2 f hf
  rw [fcL, fcL, if_neg (by decide), if_pos rfl, e, show (10 : Int32) = nI 10 from rfl, pk_sub hp, nI_l (by omega), nI_l (by omega), lN_add, show 10 - p + p = 10 by omega]
  rfl
abbrev selL (A : aS) (s kn so n c : Nat) : Int64 := if agrB kn so c n = true then shG A s c n else 0
theorem share_sum {A : aS} (h : wfPeople A) {s kn so : Nat} (hs : s < A.1 5) : ∀ n, n ≤ A.1 0 → sumL (selL A s kn so n) (2 ^ n) = shF A s kn so n
  | 0, _ => by
    show (0 : Int64) + (A.2 17 s).toInt64 = (A.2 17 s).toInt64
    rw [Int64.zero_add]
  | n + 1, hn => by
    have ih := share_sum h (kn := kn) (so := so) hs n (by omega)
    have lo : ∀ c, c < 2 ^ n → selL A s kn so (n + 1) c = selL A s kn so n c * (if (!kn.testBit n || false == so.testBit n) = true then fcL A s false n else 0) := by
      intro c hc
      have b : c.testBit n = false := Nat.testBit_lt_two_pow hc
      show (if (agrB kn so c n && (!kn.testBit n || c.testBit n == so.testBit n)) = true then shG A s c n * fcL A s (c.testBit n) n else 0) = _
      rw [b, selL]
      by_cases h1 : agrB kn so c n = true
      · rw [if_pos h1, h1, Bool.true_and]
        split
        · rfl
        · exact Int64.mul_zero.symm
      · rw [if_neg h1, Bool.eq_false_iff.mpr h1, Bool.false_and, if_neg (by decide), Int64.zero_mul]
    have hi : ∀ c, c < 2 ^ n → selL A s kn so (n + 1) (2 ^ n + c) = selL A s kn so n c * (if (!kn.testBit n || true == so.testBit n) = true then fcL A s true n else 0) := by
      intro c hc
      have b : (2 ^ n + c).testBit n = true := by rw [Nat.testBit_two_pow_add_eq, Nat.testBit_lt_two_pow hc]; rfl
      have bs : ∀ f, f < n → (2 ^ n + c).testBit f = c.testBit f := fun f hf => Nat.testBit_two_pow_add_gt hf c
      show (if (agrB kn so (2 ^ n + c) n && (!kn.testBit n || (2 ^ n + c).testBit n == so.testBit n)) = true then shG A s (2 ^ n + c) n * fcL A s ((2 ^ n + c).testBit n) n else 0) = _
      rw [b, agrB_congr bs, shG_congr bs, selL]
      by_cases h1 : agrB kn so c n = true
      · rw [if_pos h1, h1, Bool.true_and]
        split
        · rfl
        · exact Int64.mul_zero.symm
      · rw [if_neg h1, Bool.eq_false_iff.mpr h1, Bool.false_and, if_neg (by decide), Int64.zero_mul]
    rw [show 2 ^ (n + 1) = 2 ^ n + 2 ^ n by rw [Nat.pow_succ]; omega, sumL_split, sumL_congr lo, sumL_congr hi, sumL_mul, sumL_mul, ih, ← Int64.mul_add]
    show _ = shF A s kn so n * facL A s kn so n
    congr 1
    unfold facL
    cases hk : kn.testBit n with
    | false =>
      have e := fc_ten h hs (show n < A.1 0 by omega)
      simp only [Bool.not_false, Bool.true_or, if_true, Bool.false_eq_true, if_false]
      exact e
    | true =>
      cases hb : so.testBit n with
      | false => simp [fcL]
      | true => simp [fcL]
