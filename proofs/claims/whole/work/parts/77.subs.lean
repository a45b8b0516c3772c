/-! subsets of a set, one after another -/
def pdN (a k : Nat) : Nat → Nat
  | 0 => 0
  | i + 1 => pdN a k i + (if (a.testBit i && k.testBit (cntB (fun j => a.testBit j) i)) = true then 2 ^ i else 0)
def pd (a k : Nat) : Nat := pdN a k 9
def pxN (a c : Nat) : Nat → Nat
  | 0 => 0
  | i + 1 => pxN a c i + (if (a.testBit i && c.testBit i) = true then 2 ^ cntB (fun j => a.testBit j) i else 0)
def px (a c : Nat) : Nat := pxN a c 9
def pdE (a k : Nat) : Nat := if k < 2 ^ popc a then pd a k else 0
theorem pdN_0 (a : Nat) : ∀ i, pdN a 0 i = 0
  | 0 => rfl
  | i + 1 => by
    show pdN a 0 i + _ = 0
    rw [pdN_0 a i, Nat.zero_testBit, Bool.and_false, if_neg (by decide)]
theorem pd_0 (a : Nat) : pd a 0 = 0 := pdN_0 a 9
theorem pdE_0 (a : Nat) : pdE a 0 = 0 := by
  unfold pdE
  rw [pd_0]
  split <;> rfl
theorem pd_step : ∀ a, a < 512 → ∀ k, k < 2 ^ popc a → ((nI (pd a k) - nI a) &&& nI a) = nI (pdE a (k + 1)) ∧ (pd a k &&& a = pd a k) ∧ pd a k ≤ a ∧ (k + 1 < 2 ^ popc a → pd a k < pd a (k + 1)) := by decide +kernel
theorem px_ok : ∀ a, a < 512 → ∀ c, c < 512 → c &&& a = c → px a c < 2 ^ popc a ∧ pd a (px a c) = c := by decide +kernel
theorem pd_mono {a : Nat} (ha : a < 512) {j : Nat} : ∀ k, j < k → k < 2 ^ popc a → pd a j < pd a k
  | 0, h, _ => absurd h (Nat.not_lt_zero j)
  | k + 1, h, hk => by
    have h1 := (pd_step a ha k (by omega)).2.2.2 hk
    rcases Nat.lt_succ_iff_lt_or_eq.mp h with q | q
    · have := pd_mono ha k q (by omega)
      omega
    · subst q; exact h1
def cE (a C k : Nat) : Nat := if k < 2 ^ popc a then pd a k else C
theorem cE_t {a C k : Nat} (h : k < 2 ^ popc a) : cE a C k = pd a k := if_pos h
theorem cE_e {a C : Nat} : cE a C (2 ^ popc a) = C := if_neg (Nat.lt_irrefl _)
theorem cE_0 {a C : Nat} : cE a C 0 = 0 := by rw [cE_t (Nat.two_pow_pos _), pd_0]
theorem no_between {a C k c : Nat} (ha : a < C) (hC : C ≤ 512) (hk : k < 2 ^ popc a) (h1 : pd a k < c) (h2 : c < cE a C (k + 1)) (hs : c &&& a = c) : False := by
  have hc : c ≤ a := by rw [← hs]; exact Nat.and_le_right
  obtain ⟨p1, p2⟩ := px_ok a (by omega) c (by omega) hs
  by_cases q : px a c ≤ k
  · rcases Nat.lt_or_eq_of_le q with z | z
    · have := pd_mono (show a < 512 by omega) k z hk
      omega
    · rw [z] at p2; omega
  · rw [cE_t (by omega)] at h2
    rcases Nat.lt_or_eq_of_le (show k + 1 ≤ px a c by omega) with z | z
    · have := pd_mono (show a < 512 by omega) _ z p1
      omega
    · rw [← z] at p2; omega
theorem pd_lt_cE {a C k : Nat} (ha : a < C) (hC : C ≤ 512) (hk : k < 2 ^ popc a) : pd a k < cE a C (k + 1) := by
  obtain ⟨-, -, h3, h4⟩ := pd_step a (by omega) k hk
  by_cases q : k + 1 < 2 ^ popc a
  · rw [cE_t q]; exact h4 q
  · unfold cE; rw [if_neg q]; omega
theorem cE_next {a C k c : Nat} (ha : a < C) (hC : C ≤ 512) (hk : k < 2 ^ popc a) (hs : c &&& a = c) : c < cE a C (k + 1) ↔ c < cE a C k ∨ c = pd a k := by
  have h := pd_lt_cE ha hC hk
  rw [cE_t hk]
  constructor
  · intro hc
    rcases Nat.lt_trichotomy c (pd a k) with q | q | q
    · exact Or.inl q
    · exact Or.inr q
    · exact absurd hs (fun z => no_between ha hC hk q hc z)
  · rintro (q | q) <;> omega
theorem cntB_skip {p : Nat → Bool} {x : Nat} : ∀ y, x ≤ y → (∀ c, x ≤ c → c < y → ¬ p c = true) → cntB p y = cntB p x
  | 0, h, _ => by rw [show x = 0 by omega]
  | y + 1, h, hp => by
    by_cases q : x = y + 1
    · rw [q]
    · rw [cntB_f (hp y (by omega) (by omega))]
      exact cntB_skip y (by omega) (fun c h1 h2 => hp c h1 (by omega))
theorem cntB_sub {p : Nat → Bool} {a C k : Nat} (ha : a < C) (hC : C ≤ 512) (hk : k < 2 ^ popc a) (hp : ∀ c, p c = true → c &&& a = c) : cntB p (cE a C (k + 1)) = cntB p (pd a k + 1) :=
  cntB_skip _ (pd_lt_cE ha hC hk) (fun c h1 h2 h3 => no_between ha hC hk h1 h2 (hp c h3))
theorem popc_le12 (a : Nat) : popc a ≤ 12 := cntB_le _ 12
theorem pow_popc {a : Nat} : 2 ^ popc a ≤ 4096 := Nat.pow_le_pow_right (by omega) (popc_le12 a)
theorem shl_popc {a : Nat} (ha : a < 4096) : (1 : Int32) <<< (bcF (nI a) &&& 31) = nI (2 ^ popc a) := by
  have := popc_le12 a
  rw [bc_small a ha, shl1 (by omega)]
