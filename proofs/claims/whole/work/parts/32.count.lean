/-! COUNTING: how many below n; the i-th -/
def cntB (p : Nat → Bool) : Nat → Nat
  | 0 => 0
  | n + 1 => cntB p n + (if p n = true then 1 else 0)
theorem cntB_t {p : Nat → Bool} {n : Nat} (h : p n = true) : cntB p (n + 1) = cntB p n + 1 := by
  show cntB p n + _ = _
  rw [if_pos h]
theorem cntB_f {p : Nat → Bool} {n : Nat} (h : ¬ p n = true) : cntB p (n + 1) = cntB p n := by
  show cntB p n + _ = _
  rw [if_neg h]; rfl
theorem cntB_le (p : Nat → Bool) : ∀ n, cntB p n ≤ n
  | 0 => Nat.le_refl 0
  | n + 1 => by
    have := cntB_le p n
    show cntB p n + _ ≤ n + 1
    split <;> omega
theorem cntB_mono (p : Nat → Bool) : ∀ {a b : Nat}, a ≤ b → cntB p a ≤ cntB p b := by
  intro a b h
  induction h with
  | refl => exact Nat.le_refl _
  | step _ ih => exact Nat.le_trans ih (Nat.le_add_right _ _)
theorem cntB_lt {p : Nat → Bool} {a b : Nat} (h : a < b) (hp : p a = true) : cntB p a < cntB p b := by
  have h1 := cntB_mono p (show a + 1 ≤ b from h)
  rw [cntB_t hp] at h1
  exact h1
theorem cntB_inj {p : Nat → Bool} {a b : Nat} (ha : p a = true) (hb : p b = true) (h : cntB p a = cntB p b) : a = b := by
  rcases Nat.lt_trichotomy a b with h1 | h1 | h1
  · have := cntB_lt h1 ha; omega
  · exact h1
  · have := cntB_lt h1 hb; omega
theorem cntB_hit {p : Nat → Bool} : ∀ {n m : Nat}, m < cntB p n → ∃ c, c < n ∧ p c = true ∧ cntB p c = m
  | 0, m, h => absurd h (Nat.not_lt_zero m)
  | n + 1, m, h => by
    by_cases hp : p n = true
    · rw [cntB_t hp] at h
      by_cases hm : m < cntB p n
      · obtain ⟨c, h1, h2, h3⟩ := cntB_hit hm
        exact ⟨c, by omega, h2, h3⟩
      · exact ⟨n, Nat.lt_succ_self n, hp, by omega⟩
    · rw [cntB_f hp] at h
      obtain ⟨c, h1, h2, h3⟩ := cntB_hit h
      exact ⟨c, by omega, h2, h3⟩
theorem cntB_congr {p q : Nat → Bool} : ∀ {n : Nat}, (∀ c, c < n → p c = q c) → cntB p n = cntB q n
  | 0, _ => rfl
  | n + 1, h => by
    show cntB p n + _ = cntB q n + _
    rw [cntB_congr (fun c hc => h c (Nat.lt_succ_of_lt hc)), h n (Nat.lt_succ_self n)]
/-- how many (i is -1), or the i-th, or -1 -/
def hitsF (p : Nat → Bool) (C : Nat) (i : Int32) : Int32 := if i = -1 then nI (cntB p C) else match (List.range C).find? (fun c => p c && (nI (cntB p c) == i)) with
  | some c => nI c
  | none => -1
theorem hitsF_all (p : Nat → Bool) (C : Nat) : hitsF p C (-1) = nI (cntB p C) := if_pos rfl
theorem hitsF_at {p : Nat → Bool} {C c : Nat} {i : Int32} (hC : C < 2 ^ 31) (hc : c < C) (hp : p c = true) (hi : nI (cntB p c) = i) : hitsF p C i = nI c := by
  have hn : i ≠ -1 := by
    intro e
    have h0 := nI_pos (n := cntB p c) (by have := cntB_le p c; omega)
    rw [hi, e] at h0
    exact h0 (by decide)
  unfold hitsF
  rw [if_neg hn]
  cases hf : (List.range C).find? (fun c => p c && (nI (cntB p c) == i)) with
  | none =>
    have := List.find?_eq_none.mp hf c (List.mem_range.mpr hc)
    rw [hp, hi] at this
    simp at this
  | some d =>
    have h1 := List.find?_some hf
    have h2 := List.mem_range.mp (List.mem_of_find?_eq_some hf)
    simp only [Bool.and_eq_true, beq_iff_eq] at h1
    have h3 : cntB p d = cntB p c := by
      have l1 := cntB_le p d
      have l2 := cntB_le p c
      exact (nI_eq (by omega) (by omega)).mp (h1.2.trans hi.symm)
    show nI d = nI c
    rw [cntB_inj h1.1 hp h3]
theorem hitsF_no {p : Nat → Bool} {C : Nat} {i : Int32} (hi : i ≠ -1) (h : ∀ c, c < C → p c = true → nI (cntB p c) ≠ i) : hitsF p C i = -1 := by
  unfold hitsF
  rw [if_neg hi]
  cases hf : (List.range C).find? (fun c => p c && (nI (cntB p c) == i)) with
  | none => rfl
  | some d =>
    have h1 := List.find?_some hf
    have h2 := List.mem_range.mp (List.mem_of_find?_eq_some hf)
    simp only [Bool.and_eq_true, beq_iff_eq] at h1
    exact absurd h1.2 (h d h2 h1.1)
/-- bits by a predicate -/
def bitsN (p : Nat → Bool) : Nat → Nat
  | 0 => 0
  | n + 1 => bitsN p n + (if p n = true then 2 ^ n else 0)
theorem bitsN_lt (p : Nat → Bool) : ∀ n, bitsN p n < 2 ^ n
  | 0 => Nat.one_pos
  | n + 1 => by
    have h := bitsN_lt p n
    show bitsN p n + _ < 2 ^ (n + 1)
    rw [Nat.pow_succ]
    split <;> omega
theorem bitsN_bit (p : Nat → Bool) : ∀ n i, (bitsN p n).testBit i = (decide (i < n) && p i)
  | 0, i => by simp [bitsN]
  | n + 1, i => by
    have hlt := bitsN_lt p n
    show (bitsN p n + _).testBit i = _
    by_cases hp : p n = true
    · rw [if_pos hp, Nat.add_comm, show 2 ^ n + bitsN p n = 2 ^ n * 1 + bitsN p n by omega, Nat.testBit_two_pow_mul_add 1 hlt, bitsN_bit p n i]
      by_cases h1 : i < n
      · rw [if_pos h1]
        simp [h1, Nat.lt_succ_of_lt h1]
      · rw [if_neg h1]
        by_cases h2 : i = n
        · subst h2; simp [hp]
        · obtain ⟨d, hd⟩ : ∃ d, i - n = d + 1 := ⟨i - n - 1, by omega⟩
          rw [hd, Nat.testBit_succ]
          have h3 : ¬ i < n + 1 := by omega
          simp [h3]
    · rw [if_neg hp, Nat.add_zero, bitsN_bit p n i]
      by_cases hi : i = n
      · subst hi; simp [hp]
      · rw [show decide (i < n) = decide (i < n + 1) by rw [decide_eq_decide]; omega]
