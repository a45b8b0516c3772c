/-! BITS COUNTED; the lowest, the highest; what is said without some clauses -/
def bcF (a : Int32) : Int32 :=
  let y1 := ((a - ((jushr a 1) &&& 1431655765)) &&& 858993459) + ((jushr (a - ((jushr a 1) &&& 1431655765)) 2) &&& 858993459)
  let y2 := ((y1 + (jushr y1 4)) &&& 252645135) + (jushr ((y1 + (jushr y1 4)) &&& 252645135) 8)
  (y2 + (jushr y2 16)) &&& 63
theorem s_bc {P : jP} {a : Int32} {Q : Int32 → Prop} (h : Q (bcF a)) : w_J6_bitCount_0f7a4 P a Q := by
  intro y1 h1 y2 h2
  subst h1
  subst h2
  exact h
theorem all4096 {p : Nat → Prop} (h : ∀ a, a < 64 → ∀ b, b < 64 → p (64 * a + b)) : ∀ m, m < 4096 → p m := fun m hm => by
  have := h (m / 64) (by omega) (m % 64) (by omega)
  rwa [Nat.div_add_mod] at this
def popc (m : Nat) : Nat := cntB (fun i => m.testBit i) 12
theorem bc_small : ∀ m, m < 4096 → bcF (nI m) = nI (popc m) := all4096 (by decide +kernel)
theorem low_small : ∀ m, m < 4096 → bcF ((nI m &&& (-nI m)) - 1) = nI (lowb m) := all4096 (by decide +kernel)
theorem lowb_lt4 : ∀ m, m < 4096 → (m ≠ 0 → ∀ k, k < 13 → m < 2 ^ k → lowb m < k) := all4096 (by decide +kernel)
theorem lowb_lt (k : Nat) (hk : k ≤ 12) (m : Nat) (hm : m < 2 ^ k) (h0 : m ≠ 0) : lowb m < k := lowb_lt4 m (by have := Nat.pow_le_pow_right (show 0 < 2 by omega) hk; omega) h0 k (by omega) hm
theorem jn2 {c : Prop} [Decidable c] {B : Int32 → Int32 → Prop} {a b a' b' : Int32} (h : B (if c then (a, b) else (a', b')).1 (if c then (a, b) else (a', b')).2) : ∀ R : Int32 → Int32 → Prop, (∀ x y, B x y → R x y) → (c → R a b) ∧ (¬ c → R a' b') := by
  intro R hR
  by_cases hc : c
  · rw [if_pos hc] at h
    exact br_t hc (hR _ _ h)
  · rw [if_neg hc] at h
    exact br_f hc (hR _ _ h)
def ntzF (a : Int32) : Int32 :=
  let b := (a ^^^ (-1)) &&& (a - 1)
  let p1 := if b ≤ 65536 then (b, (1 : Int32)) else (jushr b 16, 1 + 16)
  let p2 := if p1.1 ≤ 256 then (p1.1, p1.2) else (jushr p1.1 8, p1.2 + 8)
  let p3 := if p2.1 ≤ 16 then (p2.1, p2.2) else (jushr p2.1 4, p2.2 + 4)
  let p4 := if p3.1 ≤ 4 then (p3.1, p3.2) else (jushr p3.1 2, p3.2 + 2)
  if 0 < b then p4.2 + jushr p4.1 1 else b &&& 32
theorem s_ntz {P : jP} {a : Int32} {Q : Int32 → Prop} (h : Q (ntzF a)) : w_J6_numberOfTrailingZeros_0f7a4 P a Q := by
  unfold w_J6_numberOfTrailingZeros_0f7a4
  unfold ntzF at h
  refine br_c (fun z => ?_) (fun z => ?_)
  · refine jn2 (jn2 (jn2 (jn2 ?_)))
    simp only [if_pos z] at h
    exact h
  · simp only [if_neg z] at h
    exact h
theorem ntz_small : ∀ m, m < 4096 → m ≠ 0 → ntzF (nI m) = nI (lowb m) := all4096 (by decide +kernel)
def nlzF (a : Int32) : Int32 :=
  let p1 := if a < 65536 then (a, (31 : Int32)) else (jushr a 16, 31 + (-16))
  let p2 := if p1.1 < 256 then (p1.1, p1.2) else (jushr p1.1 8, p1.2 + (-8))
  let p3 := if p2.1 < 16 then (p2.1, p2.2) else (jushr p2.1 4, p2.2 + (-4))
  let p4 := if p3.1 < 4 then (p3.1, p3.2) else (jushr p3.1 2, p3.2 + (-2))
  p4.2 - jushr p4.1 1
theorem s_nlz {P : jP} {a : Int32} {Q : Int32 → Prop} (ha : 0 < a) (h : Q (nlzF a)) : w_J6_numberOfLeadingZeros_0f7a4 P a Q := by
  unfold w_J6_numberOfLeadingZeros_0f7a4
  unfold nlzF at h
  refine br_t ha ?_
  exact jn2 (jn2 (jn2 (jn2 h)))
theorem nlz_small : ∀ m, m < 4096 → m ≠ 0 → 0 < nI m ∧ 31 - nlzF (nI m) = nI (Nat.log2 m) := all4096 (by decide +kernel)
def andn (h s : Nat) : Nat := h &&& (4095 ^^^ s)
theorem nI_andn {h s : Nat} (hh : h < 4096) : nI h &&& (nI s ^^^ (-1)) = nI (andn h s) := by
  unfold andn
  rw [← nI_and, ← nI_xor]
  apply Int32.toBitVec_inj.mp
  apply BitVec.eq_of_getLsbD_eq
  intro i hi
  have hm : (-1 : Int32).toBitVec = BitVec.allOnes 32 := by decide
  have h4 : (nI 4095).toBitVec = BitVec.ofNat 32 4095 := rfl
  have hb : (nI h).toBitVec = BitVec.ofNat 32 h := rfl
  simp only [Int32.toBitVec_and, Int32.toBitVec_xor, hm, h4, hb, BitVec.getLsbD_and, BitVec.getLsbD_xor, BitVec.getLsbD_allOnes, BitVec.getLsbD_ofNat, hi, decide_true, Bool.true_and]
  by_cases hl : i < 12
  · have : Nat.testBit 4095 i = true := (by decide : ∀ i, i < 12 → Nat.testBit 4095 i = true) i hl
    rw [this]
    cases (nI s).toBitVec.getLsbD i <;> rfl
  · have : h.testBit i = false := Nat.testBit_lt_two_pow (Nat.lt_of_lt_of_le hh (show 4096 ≤ 2 ^ i by
      have := Nat.pow_le_pow_right (show 0 < 2 by omega) (show 12 ≤ i by omega)
      omega))
    rw [this]
    simp
theorem andn_le {h s : Nat} : andn h s ≤ h := Nat.and_le_left
theorem andn_0 {h : Nat} (hh : h < 4096) : andn h 0 = h := by
  unfold andn
  rw [Nat.xor_zero, show (4095 : Nat) = 2 ^ 12 - 1 from rfl, Nat.and_two_pow_sub_one_eq_mod, Nat.mod_eq_of_lt hh]
/-- what a law's case needs -/
theorem law_ok {A : aS} (h : wfLaws A) {l : Nat} (hl : l < A.1 2) : ∃ cl : Nat, 1 ≤ cl ∧ cl ≤ 12 ∧ A.2 10 l = nI cl ∧ (∀ k, k < cl → ∃ o : Nat, o ≤ 5 ∧ A.2 11 (12 * l + k) = nI o) ∧ ∀ c, c < 2 ^ A.1 0 → ∃ h : Nat, h < 2 ^ cl ∧ h < 4096 ∧ A.2 9 (512 * l + c) = nI h ∧ A.2 8 (512 * l + c) = outOf A l h := by
  obtain ⟨cl, h1, h2, h3, h4, h5⟩ := h l hl
  refine ⟨cl, h1, h2, h3, h4, fun c hc => ?_⟩
  obtain ⟨b, b1, b2, b3⟩ := h5 c hc
  have := Nat.pow_le_pow_right (show 0 < 2 by omega) h2
  exact ⟨b, b1, by omega, b2, b3⟩
theorem s11_outcomeOf {P : jP} {M : jM} {A : aS} (h : RelC P M A) {l cl m : Nat} (hl : l < A.1 2) (hcl : A.2 10 l = nI cl) (h12 : cl ≤ 12) (hm : m < 2 ^ cl) {Q : Int32 → Prop} (hq : Q (outOf A l m)) : w_X4_outcomeOf P (64 + 8 * l) (nI m) M Q := by
  have hm4 : m < 4096 := by
    have := Nat.pow_le_pow_right (show 0 < 2 by omega) h12
    omega
  unfold w_X4_outcomeOf w_X11_lowest
  refine s_bc ?_
  rw [low_small m hm4, h.many hl, hcl]
  refine ⟨h.lw hl, ?_⟩
  by_cases h0 : m = 0
  · subst h0
    rw [outOf, if_pos rfl] at hq
    exact br_t (nI_le (a := cl) (b := lowb 0) (by have : lowb 0 = 32 := (by decide +kernel); omega) (by decide +kernel)) hq
  · have hb := lowb_lt cl h12 m hm h0
    rw [outOf, if_neg h0] at hq
    refine br_f (nI_ge hb (by omega)) ⟨h.lw hl, jin_of (h.ia hl).1 (by omega) (by omega), ?_⟩
    rw [nI_clamp (by omega), h.out hl (by rw [hcl, nI_clamp (by omega)]; exact hb)]
    exact hq
theorem s12_saidWithout {P : jP} {M : jM} {A : aS} (h : RelM M A) {l cl c b s : Nat} (hl : l < A.1 2) (h12 : cl ≤ 12) (hc : c < 512) (hb : A.2 9 (512 * l + c) = nI b) (hbl : b < 2 ^ cl) {Q : Int32 → Prop} (hq : Q (outOf A l (andn b s))) : w_X12_saidWithout P (nI l) (nI s) (nI c) M Q := by
  have h6 := h.num
  unfold wfNum at h6
  have hb4 : b < 4096 := by
    have := Nat.pow_le_pow_right (show 0 < 2 by omega) h12
    omega
  have hle : andn b s ≤ b := andn_le
  unfold w_X12_saidWithout
  refine ⟨(ix512 (by omega) hc).1, fun y hy => ?_⟩
  rw [(ix512 (by omega) hc).2, h.row (by omega), hb, nI_andn hb4] at hy
  subst hy
  by_cases h0 : andn b s = 0
  · rw [outOf, if_pos h0] at hq
    rw [h0]
    exact bn_t rfl hq
  · rw [outOf, if_neg h0] at hq
    refine bn_f (nI_ne0 (by omega) (by omega)) (s_ntz ?_)
    have hlow := lowb_lt cl h12 (andn b s) (by omega) h0
    rw [ntz_small _ (by omega) h0]
    have ix := ix12 (l := l) (k := lowb (andn b s)) (N := 72) (by omega) (by omega)
    refine ⟨ix.1, ?_⟩
    rw [ix.2, h.row (by omega)]
    exact hq
