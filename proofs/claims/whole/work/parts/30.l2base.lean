/-! LEVEL 2: the tables alone. Ints that are numbers; bits; truth values; loops. -/
theorem nI_and (a b : Nat) : nI a &&& nI b = nI (a &&& b) := by
  apply Int32.toBitVec_inj.mp
  show BitVec.ofNat 32 a &&& BitVec.ofNat 32 b = BitVec.ofNat 32 (a &&& b)
  rw [BitVec.ofNat_and]
theorem nI_or (a b : Nat) : nI a ||| nI b = nI (a ||| b) := by
  apply Int32.toBitVec_inj.mp
  show BitVec.ofNat 32 a ||| BitVec.ofNat 32 b = BitVec.ofNat 32 (a ||| b)
  rw [BitVec.ofNat_or]
theorem nI_xor (a b : Nat) : nI a ^^^ nI b = nI (a ^^^ b) := by
  apply Int32.toBitVec_inj.mp
  show BitVec.ofNat 32 a ^^^ BitVec.ofNat 32 b = BitVec.ofNat 32 (a ^^^ b)
  rw [BitVec.ofNat_xor]
theorem nI_shl (a : Nat) {k : Nat} (hk : k < 32) : nI a <<< (nI k &&& 31) = nI (a <<< k) := by
  apply Int32.toBitVec_inj.mp
  rw [Int32.toBitVec_shiftLeft]
  have h : ∀ k, k < 32 → ((nI k &&& 31).toBitVec.smod 32) = BitVec.ofNat 32 k := by decide +kernel
  rw [h k hk]
  show BitVec.ofNat 32 a <<< BitVec.ofNat 32 k = BitVec.ofNat 32 (a <<< k)
  rw [BitVec.shiftLeft_eq', BitVec.toNat_ofNat, Nat.mod_eq_of_lt (by omega : k < 2 ^ 32)]
  apply BitVec.eq_of_toNat_eq
  simp only [BitVec.toNat_shiftLeft, BitVec.toNat_ofNat, Nat.shiftLeft_eq]
  rw [Nat.mod_mul_mod]
theorem nI_shr {a : Nat} (ha : a < 2 ^ 31) {k : Nat} (hk : k < 32) : nI a >>> (nI k &&& 31) = nI (a >>> k) := by
  have h : ∀ k, k < 32 → ((nI k &&& 31).toBitVec.smod 32).toNat = k := by decide +kernel
  rw [pk_shrN ha _ k (h k hk), Nat.shiftRight_eq_div_pow]
def bi (p : Prop) [Decidable p] : Int32 := if p then 1 else 0
theorem bi_t {p : Prop} [Decidable p] (h : p) : bi p = 1 := if_pos h
theorem bi_f {p : Prop} [Decidable p] (h : ¬ p) : bi p = 0 := if_neg h
theorem bi_0 {p : Prop} [Decidable p] : bi p = 0 ↔ ¬ p := by
  by_cases h : p
  · rw [bi_t h]; exact ⟨fun e => absurd e (by decide), fun e => absurd h e⟩
  · rw [bi_f h]; exact ⟨fun _ => h, fun _ => rfl⟩
theorem bi_1 {p : Prop} [Decidable p] : bi p = 1 ↔ p := by
  by_cases h : p
  · rw [bi_t h]; exact ⟨fun _ => h, fun _ => rfl⟩
  · rw [bi_f h]; exact ⟨fun e => absurd e (by decide), fun e => absurd e h⟩
theorem bi_jb {p : Prop} [Decidable p] : jb (bi p) := by
  by_cases h : p
  · rw [bi_t h]; exact jb_1
  · rw [bi_f h]; exact jb_0
theorem br_i {p : Prop} [Decidable p] {A B : Prop} (f : ¬ p → A) (t : p → B) : (bi p = 0 → A) ∧ (¬ bi p = 0 → B) := ⟨fun h => f (bi_0.mp h), fun h => t (Classical.byContradiction fun z => h (bi_0.mpr z))⟩
theorem br_j {p : Prop} [Decidable p] {A B : Prop} (t : p → B) (f : ¬ p → A) : (¬ bi p = 0 → B) ∧ (bi p = 0 → A) := ⟨fun h => t (Classical.byContradiction fun z => h (bi_0.mpr z)), fun h => f (bi_0.mp h)⟩
theorem br_k {p : Prop} [Decidable p] {A B : Prop} (f : ¬ p → A) (t : p → B) : (¬ bi p = 1 → A) ∧ (bi p = 1 → B) := ⟨fun h => f (fun z => h (bi_1.mpr z)), fun h => t (bi_1.mp h)⟩
theorem bn_t {c A B : Prop} (h : c) (a : A) : (¬ c → B) ∧ (c → A) := ⟨fun z => absurd h z, fun _ => a⟩
theorem bn_f {c A B : Prop} (h : ¬ c) (b : B) : (¬ c → B) ∧ (c → A) := ⟨fun _ => b, fun z => absurd z h⟩
theorem bn_c {c A B : Prop} (b : ¬ c → B) (a : c → A) : (¬ c → B) ∧ (c → A) := ⟨b, a⟩
theorem chk2 {c1 c2 : Prop} [Decidable c1] [Decidable c2] {Q : Int32 → Prop} (h : Q (bi (¬ c1 ∧ ¬ c2))) : (c1 → Q 0) ∧ (¬ c1 → ((c2 → Q 0) ∧ (¬ c2 → Q 1))) := by
  by_cases h1 : c1
  · rw [bi_f (fun z => z.1 h1)] at h
    exact br_t h1 h
  · refine br_f h1 ?_
    by_cases h2 : c2
    · rw [bi_f (fun z => z.2 h2)] at h
      exact br_t h2 h
    · rw [bi_t ⟨h1, h2⟩] at h
      exact br_f h2 h
/-- a counter that goes up to n -/
theorem lp_up {R : Nat → Prop} (n : Nat) (he : R n) (hs : ∀ i, i < n → R (i + 1) → R i) : ∀ i, i ≤ n → R i := by
  intro i hi
  obtain ⟨k, hk⟩ : ∃ k, k = n - i := ⟨_, rfl⟩
  induction k generalizing i with
  | zero => rw [show i = n by omega]; exact he
  | succ k ih => exact hs i (by omega) (ih (i + 1) (by omega) (by omega))
/-- an argument that is to be below n: it is below 0, or too large, or a number -/
theorem arg3 (x : Int32) {n : Nat} (hn : n < 2 ^ 31) : x < 0 ∨ (¬ x < 0 ∧ nI n ≤ x) ∨ ∃ j : Nat, j < n ∧ x = nI j ∧ ¬ x < 0 ∧ ¬ nI n ≤ x := by
  rcases pk_ix x hn with h | h | ⟨j, h1, h2⟩
  · exact Or.inl h
  · by_cases h0 : x < 0
    · exact Or.inl h0
    · exact Or.inr (Or.inl ⟨h0, h⟩)
  · subst h2
    exact Or.inr (Or.inr ⟨j, h1, rfl, nI_pos (by omega), nI_ge h1 hn⟩)
theorem ok3 {x : Int32} {n : Nat} (hn : n < 2 ^ 31) : (¬ x < 0 ∧ ¬ nI n ≤ x) ↔ ∃ j : Nat, j < n ∧ x = nI j := by
  constructor
  · intro h
    rcases arg3 x hn with z | z | ⟨j, h1, h2, -⟩
    · exact absurd z h.1
    · exact absurd z.2 h.2
    · exact ⟨j, h1, h2⟩
  · rintro ⟨j, h1, rfl⟩
    exact ⟨nI_pos (by omega), nI_ge h1 hn⟩
theorem vin {n N : Nat} (h : n < N) (hN : N < 2 ^ 31) : vp_in (nI n) N := vp_in_nI h hN
