/-! subsets of a set, one after another -/
def pdR : Nat → Nat → Nat → Nat
  | 0, _, _ => 0
  | n + 1, a, k => if a % 2 = 1 then 2 * pdR n (a / 2) (k / 2) + k % 2 else 2 * pdR n (a / 2) k
def pcR : Nat → Nat → Nat
  | 0, _ => 0
  | n + 1, a => pcR n (a / 2) + a % 2
def pxR : Nat → Nat → Nat → Nat
  | 0, _, _ => 0
  | n + 1, a, c => if a % 2 = 1 then 2 * pxR n (a / 2) (c / 2) + c % 2 else pxR n (a / 2) (c / 2)
theorem half_and (a b : Nat) : (a &&& b) / 2 = a / 2 &&& b / 2 := by
  apply Nat.eq_of_testBit_eq
  intro i
  rw [Nat.testBit_and, ← Nat.testBit_succ, ← Nat.testBit_succ, ← Nat.testBit_succ, Nat.testBit_and]
theorem low_and (a b : Nat) : (a &&& b) % 2 = (a % 2) * (b % 2) := by
  have h : (a &&& b).testBit 0 = (a.testBit 0 && b.testBit 0) := Nat.testBit_and a b 0
  rw [Nat.testBit_zero, Nat.testBit_zero, Nat.testBit_zero] at h
  rcases Nat.mod_two_eq_zero_or_one a with e1 | e1 <;> rcases Nat.mod_two_eq_zero_or_one b with e2 | e2 <;> rcases Nat.mod_two_eq_zero_or_one (a &&& b) with e3 | e3 <;> rw [e1, e2, e3] at h <;> rw [e1, e2, e3] <;> revert h <;> decide
theorem ext2 {a b : Nat} (h1 : a / 2 = b / 2) (h2 : a % 2 = b % 2) : a = b := by omega
theorem sub_half {s a : Nat} (h : s &&& a = s) : s / 2 &&& a / 2 = s / 2 ∧ s % 2 ≤ a % 2 := by
  have h1 := half_and s a
  have h2 := low_and s a
  rw [h] at h1 h2
  refine ⟨h1.symm, ?_⟩
  rcases Nat.mod_two_eq_zero_or_one s with e1 | e1 <;> rcases Nat.mod_two_eq_zero_or_one a with e2 | e2 <;> rw [e1, e2] at h2 <;> omega
theorem pdR_sub : ∀ n a k, pdR n a k &&& a = pdR n a k
  | 0, a, k => Nat.zero_and a
  | n + 1, a, k => by
    unfold pdR
    by_cases h : a % 2 = 1
    · rw [if_pos h]
      have ih := pdR_sub n (a / 2) (k / 2)
      generalize pdR n (a / 2) (k / 2) = x at ih ⊢
      refine ext2 ?_ ?_
      · rw [half_and, show (2 * x + k % 2) / 2 = x by omega]; exact ih
      · rw [low_and, h, Nat.mul_one]
    · rw [if_neg h]
      have ih := pdR_sub n (a / 2) k
      generalize pdR n (a / 2) k = x at ih ⊢
      refine ext2 ?_ ?_
      · rw [half_and, show 2 * x / 2 = x by omega]; exact ih
      · rw [low_and, show 2 * x % 2 = 0 by omega, Nat.zero_mul]
theorem pdR_mono : ∀ n a j k, j < k → k < 2 ^ pcR n a → pdR n a j < pdR n a k
  | 0, a, j, k, h, hk => by
    have : 2 ^ pcR 0 a = 1 := rfl
    omega
  | n + 1, a, j, k, h, hk => by
    have e : pcR (n + 1) a = pcR n (a / 2) + a % 2 := rfl
    unfold pdR
    by_cases h1 : a % 2 = 1
    · rw [if_pos h1, if_pos h1]
      rw [e, h1, Nat.pow_succ] at hk
      by_cases q : j / 2 = k / 2
      · rw [q]; omega
      · have := pdR_mono n (a / 2) (j / 2) (k / 2) (by omega) (by omega)
        omega
    · rw [if_neg h1, if_neg h1]
      rw [e, show a % 2 = 0 by omega, Nat.add_zero] at hk
      have := pdR_mono n (a / 2) j k h hk
      omega
theorem pxR_ok : ∀ n a c, a < 2 ^ n → c &&& a = c → pxR n a c < 2 ^ pcR n a ∧ pdR n a (pxR n a c) = c
  | 0, a, c, ha, hc => by
    rw [show a = 0 by omega, Nat.and_zero] at hc
    refine ⟨Nat.one_pos, ?_⟩
    rw [← hc]; rfl
  | n + 1, a, c, ha, hc => by
    have e : pcR (n + 1) a = pcR n (a / 2) + a % 2 := rfl
    obtain ⟨s1, s2⟩ := sub_half hc
    obtain ⟨i1, i2⟩ := pxR_ok n (a / 2) (c / 2) (by rw [Nat.pow_succ] at ha; omega) s1
    unfold pxR
    by_cases h : a % 2 = 1
    · rw [if_pos h, e, h, Nat.pow_succ]
      generalize pxR n (a / 2) (c / 2) = x at i1 i2
      refine ⟨by omega, ?_⟩
      unfold pdR
      rw [if_pos h, show (2 * x + c % 2) / 2 = x by omega, i2]
      omega
    · rw [if_neg h, e, show a % 2 = 0 by omega, Nat.add_zero]
      generalize pxR n (a / 2) (c / 2) = x at i1 i2
      refine ⟨i1, ?_⟩
      unfold pdR
      rw [if_neg h, i2]
      omega
theorem comp_and : ∀ m x a, a < 2 ^ m → x &&& a = x → (x + (2 ^ m - a) - 1) &&& a = x
  | 0, x, a, ha, hx => by
    rw [show a = 0 by omega, Nat.and_zero] at hx ⊢
    exact hx
  | m + 1, x, a, ha, hx => by
    obtain ⟨s1, s2⟩ := sub_half hx
    have hxa : x ≤ a := by rw [← hx]; exact Nat.and_le_right
    rw [Nat.pow_succ] at ha ⊢
    have ih := comp_and m (x / 2) (a / 2) (by omega) s1
    refine ext2 ?_ ?_
    · rw [half_and, show (x + (2 ^ m * 2 - a) - 1) / 2 = x / 2 + (2 ^ m - a / 2) - 1 by omega, ih]
    · rw [low_and]
      rcases Nat.mod_two_eq_zero_or_one x with e1 | e1 <;> rcases Nat.mod_two_eq_zero_or_one a with e2 | e2
      · rw [e1, e2, Nat.mul_zero]
      · rw [show (x + (2 ^ m * 2 - a) - 1) % 2 = 0 by omega, e1, Nat.zero_mul]
      · omega
      · rw [show (x + (2 ^ m * 2 - a) - 1) % 2 = 1 by omega, e1, e2]
theorem nxR_ok : ∀ m a k, a < 2 ^ m → k < 2 ^ pcR m a → ((pdR m a k + (2 ^ m - a)) % 2 ^ m) &&& a = if k + 1 < 2 ^ pcR m a then pdR m a (k + 1) else 0
  | 0, a, k, ha, hk => by
    have e : 2 ^ pcR 0 a = 1 := rfl
    rw [if_neg (by omega), show a = 0 by omega, Nat.and_zero]
  | m + 1, a, k, ha, hk => by
    have e : pcR (m + 1) a = pcR m (a / 2) + a % 2 := rfl
    rw [Nat.pow_succ] at ha
    by_cases h : a % 2 = 1
    · rw [e, h, Nat.pow_succ] at hk ⊢
      have ih := nxR_ok m (a / 2) (k / 2) (by omega) (by omega)
      have hsub := pdR_sub m (a / 2) (k / 2)
      have hle : pdR m (a / 2) (k / 2) ≤ a / 2 := by rw [← hsub]; exact Nat.and_le_right
      have eN : pdR (m + 1) a (k + 1) = 2 * pdR m (a / 2) ((k + 1) / 2) + (k + 1) % 2 := if_pos h
      have e0 : pdR (m + 1) a k = 2 * pdR m (a / 2) (k / 2) + k % 2 := if_pos h
      rw [eN, e0, Nat.pow_succ]
      rcases Nat.mod_two_eq_zero_or_one k with e1 | e1
      · have hc := comp_and m _ _ (by omega) hsub
        rw [if_pos (by omega), show (k + 1) / 2 = k / 2 by omega, show (k + 1) % 2 = 1 by omega, e1]
        generalize pdR m (a / 2) (k / 2) = x at hc hle ⊢
        rw [Nat.mod_eq_of_lt (by omega)]
        refine ext2 ?_ ?_
        · rw [half_and, show (2 * x + 0 + (2 ^ m * 2 - a)) / 2 = x + (2 ^ m - a / 2) - 1 by omega, hc]; omega
        · rw [low_and, h, show (2 * x + 0 + (2 ^ m * 2 - a)) % 2 = 1 by omega]; omega
      · rw [show (k + 1) / 2 = k / 2 + 1 by omega, show (k + 1) % 2 = 0 by omega, e1]
        have ez : 2 * pdR m (a / 2) (k / 2) + 1 + (2 ^ m * 2 - a) = 2 * (pdR m (a / 2) (k / 2) + (2 ^ m - a / 2)) := by omega
        rw [ez, Nat.mul_comm (2 ^ m) 2, Nat.mul_mod_mul_left]
        generalize (pdR m (a / 2) (k / 2) + (2 ^ m - a / 2)) % 2 ^ m = u at ih ⊢
        refine ext2 ?_ ?_
        · rw [half_and, show 2 * u / 2 = u by omega, ih]
          by_cases q : k / 2 + 1 < 2 ^ pcR m (a / 2)
          · rw [if_pos q, if_pos (by omega)]; omega
          · rw [if_neg q, if_neg (by omega)]
        · rw [low_and, show 2 * u % 2 = 0 by omega, Nat.zero_mul]
          split <;> omega
    · have h0 : a % 2 = 0 := by omega
      rw [e, h0] at hk ⊢
      simp only [Nat.add_zero] at hk ⊢
      have ih := nxR_ok m (a / 2) k (by omega) hk
      have eN : pdR (m + 1) a (k + 1) = 2 * pdR m (a / 2) (k + 1) := if_neg h
      have e0 : pdR (m + 1) a k = 2 * pdR m (a / 2) k := if_neg h
      rw [eN, e0, Nat.pow_succ]
      have ez : 2 * pdR m (a / 2) k + (2 ^ m * 2 - a) = 2 * (pdR m (a / 2) k + (2 ^ m - a / 2)) := by omega
      rw [ez, Nat.mul_comm (2 ^ m) 2, Nat.mul_mod_mul_left]
      generalize (pdR m (a / 2) k + (2 ^ m - a / 2)) % 2 ^ m = u at ih ⊢
      refine ext2 ?_ ?_
      · rw [half_and, show 2 * u / 2 = u by omega, ih]
        by_cases q : k + 1 < 2 ^ pcR m (a / 2)
        · rw [if_pos q, if_pos q]; omega
        · rw [if_neg q, if_neg q]
      · rw [low_and, h0, Nat.mul_zero]
        split <;> omega
def pd (a k : Nat) : Nat := pdR 32 a k
def px (a c : Nat) : Nat := pxR 32 a c
theorem popc_R : ∀ a, a < 512 → popc a = pcR 32 a := by decide +kernel
def pdE (a k : Nat) : Nat := if k < 2 ^ popc a then pd a k else 0
theorem pdR_0 : ∀ n a, pdR n a 0 = 0
  | 0, _ => rfl
  | n + 1, a => by
    unfold pdR
    rw [pdR_0 n]
    split <;> rfl
theorem pd_0 (a : Nat) : pd a 0 = 0 := pdR_0 32 a
theorem pdE_0 (a : Nat) : pdE a 0 = 0 := by
  unfold pdE
  rw [pd_0]
  split <;> rfl
theorem nI_subw (s a : Nat) (ha : a < 2 ^ 32) : nI s - nI a = nI ((s + (2 ^ 32 - a)) % 2 ^ 32) := by
  apply Int32.toBitVec_inj.mp
  show BitVec.ofNat 32 s - BitVec.ofNat 32 a = BitVec.ofNat 32 _
  apply BitVec.eq_of_toNat_eq
  rw [BitVec.toNat_sub, BitVec.toNat_ofNat, BitVec.toNat_ofNat, BitVec.toNat_ofNat]
  omega
theorem pd_step (a : Nat) (ha : a < 512) (k : Nat) (hk : k < 2 ^ popc a) : ((nI (pd a k) - nI a) &&& nI a) = nI (pdE a (k + 1)) ∧ (pd a k &&& a = pd a k) ∧ pd a k ≤ a ∧ (k + 1 < 2 ^ popc a → pd a k < pd a (k + 1)) := by
  have hs := pdR_sub 32 a k
  have e := popc_R a ha
  refine ⟨?_, hs, by unfold pd; rw [← hs]; exact Nat.and_le_right, fun h => pdR_mono 32 a k (k + 1) (Nat.lt_succ_self k) (by rw [← e]; exact h)⟩
  rw [nI_subw _ _ (by omega), nI_and]
  unfold pdE pd
  rw [e] at hk ⊢
  rw [nxR_ok 32 a k (by omega) hk]
theorem px_ok (a : Nat) (ha : a < 512) (c : Nat) (_ : c < 512) (hs : c &&& a = c) : px a c < 2 ^ popc a ∧ pd a (px a c) = c := by
  rw [popc_R a ha]
  exact pxR_ok 32 a c (by omega) hs
theorem pd_mono {a : Nat} (ha : a < 512) {j : Nat} : ∀ k, j < k → k < 2 ^ popc a → pd a j < pd a k
  | 0, h, _ => absurd h (Nat.not_lt_zero j)
  | k + 1, h, hk => by
    have h1 := (pd_step a ha k (by omega)).2.2.2 hk
    rcases Nat.lt_succ_iff_lt_or_eq.mp h with q | q
    · have := pd_mono ha k q (by omega)
      omega
    · subst q; exact h1
def cE (a C k : Nat) : Nat := if k < 2 ^ popc a then pd a k else C
theorem cE_t {a C k : Nat} (h : k < 2 ^ popc a) : cE a C k = pd a k := if_pos h
theorem cE_e {a C : Nat} : cE a C (2 ^ popc a) = C := if_neg (Nat.lt_irrefl _)
theorem cE_0 {a C : Nat} : cE a C 0 = 0 := by rw [cE_t (Nat.two_pow_pos _), pd_0]
theorem no_between {a C k c : Nat} (ha : a < C) (hC : C ≤ 512) (hk : k < 2 ^ popc a) (h1 : pd a k < c) (h2 : c < cE a C (k + 1)) (hs : c &&& a = c) : False := by
  have hc : c ≤ a := by rw [← hs]; exact Nat.and_le_right
  obtain ⟨p1, p2⟩ := px_ok a (by omega) c (by omega) hs
  by_cases q : px a c ≤ k
  · rcases Nat.lt_or_eq_of_le q with z | z
    · have := pd_mono (show a < 512 by omega) k z hk
      omega
    · rw [z] at p2; omega
  · rw [cE_t (by omega)] at h2
    rcases Nat.lt_or_eq_of_le (show k + 1 ≤ px a c by omega) with z | z
    · have := pd_mono (show a < 512 by omega) _ z p1
      omega
    · rw [← z] at p2; omega
theorem pd_lt_cE {a C k : Nat} (ha : a < C) (hC : C ≤ 512) (hk : k < 2 ^ popc a) : pd a k < cE a C (k + 1) := by
  obtain ⟨-, -, h3, h4⟩ := pd_step a (by omega) k hk
  by_cases q : k + 1 < 2 ^ popc a
  · rw [cE_t q]; exact h4 q
  · unfold cE; rw [if_neg q]; omega
theorem cE_next {a C k c : Nat} (ha : a < C) (hC : C ≤ 512) (hk : k < 2 ^ popc a) (hs : c &&& a = c) : c < cE a C (k + 1) ↔ c < cE a C k ∨ c = pd a k := by
  have h := pd_lt_cE ha hC hk
  rw [cE_t hk]
  constructor
  · intro hc
    rcases Nat.lt_trichotomy c (pd a k) with q | q | q
    · exact Or.inl q
    · exact Or.inr q
    · exact absurd hs (fun z => no_between ha hC hk q hc z)
  · rintro (q | q) <;> omega
theorem cntB_skip {p : Nat → Bool} {x : Nat} : ∀ y, x ≤ y → (∀ c, x ≤ c → c < y → ¬ p c = true) → cntB p y = cntB p x
  | 0, h, _ => by rw [show x = 0 by omega]
  | y + 1, h, hp => by
    by_cases q : x = y + 1
    · rw [q]
    · rw [cntB_f (hp y (by omega) (by omega))]
      exact cntB_skip y (by omega) (fun c h1 h2 => hp c h1 (by omega))
theorem cntB_sub {p : Nat → Bool} {a C k : Nat} (ha : a < C) (hC : C ≤ 512) (hk : k < 2 ^ popc a) (hp : ∀ c, p c = true → c &&& a = c) : cntB p (cE a C (k + 1)) = cntB p (pd a k + 1) :=
  cntB_skip _ (pd_lt_cE ha hC hk) (fun c h1 h2 h3 => no_between ha hC hk h1 h2 (hp c h3))
theorem popc_le12 (a : Nat) : popc a ≤ 12 := cntB_le _ 12
theorem pow_popc {a : Nat} : 2 ^ popc a ≤ 4096 := Nat.pow_le_pow_right (by omega) (popc_le12 a)
theorem shl_popc {a : Nat} (ha : a < 4096) : (1 : Int32) <<< (bcF (nI a) &&& 31) = nI (2 ^ popc a) := by
  have := popc_le12 a
  rw [bc_small a ha, shl1 (by omega)]
