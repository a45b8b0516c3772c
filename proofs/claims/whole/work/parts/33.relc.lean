/-! THE CLASS'S WORLD OF AN ABSTRACT STATE: pC, the places that last; cT, what stands there -/
def sum3N (b : Nat) : Nat → Nat
  | 0 => 0
  | i + 1 => sum3N b i + (if b.testBit i = true then 3 ^ i else 0)
def sum3 (b : Nat) : Nat := sum3N b 9
def sideN (n : Nat) : Nat := 7 + max 42 (2 ^ n / 4)
/-- a target, as the class keeps it -/
def tconv (v : Int32) : Int32 := if nI 12 ≤ v then v - 87 else v
def pCs (A : aS) (k j : Nat) : Prop := match k with
  | 1 => j = 10 ∨ j = 12
  | 2 => j < 4
  | 3 => j = 1
  | 4 => j = 1 ∨ j = 9
  | 5 => j = 1
  | 6 => j = 0 ∨ j = 3
  | 7 => j = 0 ∨ j = 1
  | 9 => j = 0
  | 10 => j = 0
  | 11 => j < A.1 2
  | 12 => j < A.1 4
  | 15 => j < A.1 0
  | 16 => j < 2 ^ A.1 0
  | 17 => j < A.1 1
  | 27 => j < A.1 0
  | 28 => j < A.1 0
  | 29 => j < A.1 5
  | 31 => j < A.1 0
  | 32 => j < A.1 0
  | 33 => j < A.1 0
  | 34 => j < A.1 0
  | 38 => j < A.1 3
  | 39 => j < 2 ^ A.1 0
  | 43 => j < A.1 6
  | 44 => j < A.1 6
  | _ => False
def cTs (A : aS) (k j : Nat) : Int32 := match k with
  | 1 => if j = 10 then nI (A.1 2) else nI (A.1 4)
  | 2 => if j = 0 then nI (A.1 0) else if j = 1 then nI (2 ^ A.1 0 - 1) else if j = 2 then nI (2 ^ A.1 0) else nI (3 ^ A.1 0)
  | 3 => nI (A.1 1)
  | 4 => if j = 1 then nI (A.1 0) else nI (128 + 4 * A.1 4)
  | 5 => nI (sideN (A.1 0))
  | 6 => if j = 0 then nI (A.1 0) else nI (bitsN (fun f => A.2 15 f == 1) (A.1 0))
  | 7 => if j = 0 then nI (A.1 0) else nI (A.1 5)
  | 9 => nI (A.1 3)
  | 10 => nI (A.1 6)
  | 11 => nI (64 + 8 * j)
  | 12 => nI (128 + 4 * j)
  | 15 => nI (3 ^ j)
  | 16 => nI (sum3 j)
  | 17 => A.2 2 j &&& 255
  | 27 => A.2 12 j
  | 28 => A.2 16 j
  | 29 => A.2 17 j
  | 31 => if 0 < A.1 5 then A.2 18 j else 5
  | 32 => if 1 < A.1 5 then A.2 18 (9 + j) else 5
  | 33 => if 2 < A.1 5 then A.2 18 (18 + j) else 5
  | 34 => if 3 < A.1 5 then A.2 18 (27 + j) else 5
  | 38 => A.2 13 j
  | 39 => nI (bitsN (fun q => A.2 14 (512 * q + j) == 1) (A.1 3))
  | 43 => A.2 28 j
  | _ => A.2 29 j
def pCd (A : aS) (k j : Nat) : Prop := (64 ≤ k ∧ (k - 64) / 8 < A.1 2 ∧ (((k - 64) % 8 = 0 ∧ j = 0) ∨ ((k - 64) % 8 = 1 ∧ j < (A.2 10 ((k - 64) / 8)).toNatClampNeg) ∨ ((k - 64) % 8 = 2 ∧ j < 2 ^ A.1 0) ∨ ((k - 64) % 8 = 3 ∧ j < 2 ^ A.1 0))) ∨ (128 ≤ k ∧ (k - 128) / 4 < A.1 4 ∧ (((k - 128) % 4 = 0 ∧ j = 0) ∨ ((k - 128) % 4 ≠ 0 ∧ j < (A.2 7 ((k - 128) / 4)).toNatClampNeg)))
def cTd (A : aS) (k j : Nat) : Int32 := if k < 112 then (if (k - 64) % 8 = 0 then A.2 10 ((k - 64) / 8) else if (k - 64) % 8 = 1 then A.2 11 (12 * ((k - 64) / 8) + j) else if (k - 64) % 8 = 2 then A.2 9 (512 * ((k - 64) / 8) + j) else A.2 8 (512 * ((k - 64) / 8) + j))
  else (if (k - 128) % 4 = 0 then A.2 7 ((k - 128) / 4) else if (k - 128) % 4 = 1 then A.2 4 (12 * ((k - 128) / 4) + j) else if (k - 128) % 4 = 2 then tconv (A.2 5 (12 * ((k - 128) / 4) + j)) else tconv (A.2 6 (12 * ((k - 128) / 4) + j)))
def presC (P : jP) (A : aS) : Prop := P.2.2 0 = A.1 0 ∧ P.2.2 1 = 2 ^ A.1 0 ∧ P.2.2 2 = 3 ^ A.1 0 ∧ P.2.2 3 = sideN (A.1 0) * sideN (A.1 0) ∧ (∀ l r, l < A.1 2 → r ≤ 4 → P.2.1 (64 + 8 * l + r) = true) ∧ ∀ f r, f ≤ A.1 4 → r ≤ 3 → P.2.1 (128 + 4 * f + r) = true
/-- the part of the class's world that lasts -/
def RelC (P : jP) (M : jM) (A : aS) : Prop := wfA A ∧ presC P A ∧ (∀ k j, pCs A k j → M k j = cTs A k j) ∧ ∀ k j, pCd A k j → M k j = cTd A k j
theorem RelC.agree {P : jP} {M M' : jM} {A : aS} (h : RelC P M A) (hs : ∀ k j, pCs A k j → M' k j = M k j) (hd : ∀ k j, pCd A k j → M' k j = M k j) : RelC P M' A :=
  ⟨h.1, h.2.1, fun k j hk => (hs k j hk).trans (h.2.2.1 k j hk), fun k j hk => (hd k j hk).trans (h.2.2.2 k j hk)⟩
theorem pCd_ge {A : aS} {k j : Nat} (h : pCd A k j) : 64 ≤ k := by
  unfold pCd at h
  omega
/-- cells of keys that hold nothing lasting -/
theorem RelC.keep {P : jP} {M M' : jM} {A : aS} (h : RelC P M A) (ks : List Nat) (hk : ∀ k ∈ ks, k < 64) (hp : ∀ k ∈ ks, ∀ j, ¬ pCs A k j) (hM : ∀ k, k ∉ ks → M' k = M k) : RelC P M' A :=
  h.agree (fun k j hj => by rw [hM k (fun z => hp k z j hj)]) (fun k j hj => by rw [hM k (fun z => by have := hk k z; have := pCd_ge hj; omega)])
theorem RelC.n1 {P : jP} {M : jM} {A : aS} (h : RelC P M A) : 1 ≤ A.1 0 := h.1.1.1.1
theorem RelC.n9 {P : jP} {M : jM} {A : aS} (h : RelC P M A) : A.1 0 ≤ 9 := h.1.1.1.2
theorem RelC.C512 {P : jP} {M : jM} {A : aS} (h : RelC P M A) : 2 ^ A.1 0 ≤ 512 := two_le h.n9
theorem RelC.num {P : jP} {M : jM} {A : aS} (h : RelC P M A) : wfNum A := h.1.1
theorem RelC.lawn {P : jP} {M : jM} {A : aS} (h : RelC P M A) : M 1 10 = nI (A.1 2) := h.2.2.1 1 10 (Or.inl rfl)
theorem RelC.formn {P : jP} {M : jM} {A : aS} (h : RelC P M A) : M 1 12 = nI (A.1 4) := h.2.2.1 1 12 (Or.inr rfl)
theorem RelC.facts {P : jP} {M : jM} {A : aS} (h : RelC P M A) : M 2 0 = nI (A.1 0) := h.2.2.1 2 0 (show 0 < 4 by omega)
theorem RelC.full {P : jP} {M : jM} {A : aS} (h : RelC P M A) : M 2 1 = nI (2 ^ A.1 0 - 1) := h.2.2.1 2 1 (show 1 < 4 by omega)
theorem RelC.cases {P : jP} {M : jM} {A : aS} (h : RelC P M A) : M 2 2 = nI (2 ^ A.1 0) := h.2.2.1 2 2 (show 2 < 4 by omega)
theorem RelC.len {P : jP} {M : jM} {A : aS} (h : RelC P M A) : M 3 1 = nI (A.1 1) := h.2.2.1 3 1 rfl
theorem RelC.z1 {P : jP} {M : jM} {A : aS} (h : RelC P M A) : P.2.2 1 = 2 ^ A.1 0 := h.2.1.2.1
theorem RelC.law {P : jP} {M : jM} {A : aS} (h : RelC P M A) {l : Nat} (hl : l < A.1 2) : M 11 l = nI (64 + 8 * l) := h.2.2.1 11 l hl
theorem RelC.form {P : jP} {M : jM} {A : aS} (h : RelC P M A) {l : Nat} (hl : l < A.1 4) : M 12 l = nI (128 + 4 * l) := h.2.2.1 12 l hl
theorem RelC.lw {P : jP} {M : jM} {A : aS} (h : RelC P M A) {l : Nat} (hl : l < A.1 2) : cLw P (64 + 8 * l) = true := by
  have h6 := h.num
  unfold wfNum at h6
  have hp := h.2.1.2.2.2.2.1 l 0 hl (by omega)
  unfold cLw
  simp only [Bool.and_eq_true, Nat.ble_eq, Nat.blt_eq]
  exact ⟨⟨⟨by omega, by omega⟩, by rw [show (64 + 8 * l) % 8 = 0 by omega]; rfl⟩, hp⟩
theorem RelC.fm {P : jP} {M : jM} {A : aS} (h : RelC P M A) {l : Nat} (hl : l < A.1 4) : cFm P (128 + 4 * l) = true := by
  have h6 := h.num
  unfold wfNum at h6
  have hp := h.2.1.2.2.2.2.2 l 0 (by omega) (by omega)
  unfold cFm
  simp only [Bool.and_eq_true, Nat.ble_eq, Nat.blt_eq]
  exact ⟨⟨⟨by omega, by omega⟩, by rw [show (128 + 4 * l) % 4 = 0 by omega]; rfl⟩, hp⟩
theorem RelC.ia {P : jP} {M : jM} {A : aS} (h : RelC P M A) {l : Nat} (hl : l < A.1 2) : cIA P (64 + 8 * l + 1) = some 12 ∧ cIA P (64 + 8 * l + 2) = some (2 ^ A.1 0) ∧ cIA P (64 + 8 * l + 3) = some (2 ^ A.1 0) ∧ cIA P (64 + 8 * l + 4) = some (3 ^ A.1 0) := by
  have h6 := h.num
  unfold wfNum at h6
  have hp := fun r hr => h.2.1.2.2.2.2.1 l r hl hr
  refine ⟨?_, ?_, ?_, ?_⟩ <;> unfold cIA <;> rw [if_neg (by omega), if_pos (by omega)]
  · rw [show (64 + 8 * l + 1) % 8 = 1 by omega]; exact if_pos (hp 1 (by omega))
  · rw [show (64 + 8 * l + 2) % 8 = 2 by omega]; exact (if_pos (hp 2 (by omega))).trans (by rw [h.z1])
  · rw [show (64 + 8 * l + 3) % 8 = 3 by omega]; exact (if_pos (hp 3 (by omega))).trans (by rw [h.z1])
  · rw [show (64 + 8 * l + 4) % 8 = 4 by omega]; exact (if_pos (hp 4 (by omega))).trans (by rw [h.2.1.2.2.1])
theorem RelC.said {P : jP} {M : jM} {A : aS} (h : RelC P M A) {l c : Nat} (hl : l < A.1 2) (hc : c < 2 ^ A.1 0) : M (64 + 8 * l + 3) c = A.2 8 (512 * l + c) := by
  have h6 := h.num
  unfold wfNum at h6
  have e1 : (64 + 8 * l + 3 - 64) / 8 = l := by omega
  have e2 : (64 + 8 * l + 3 - 64) % 8 = 3 := by omega
  rw [h.2.2.2 _ _ (show pCd A (64 + 8 * l + 3) c by unfold pCd; rw [e1, e2]; exact Or.inl ⟨by omega, hl, Or.inr (Or.inr (Or.inr ⟨rfl, hc⟩))⟩)]
  unfold cTd
  rw [if_pos (by omega), e1, e2]
  rfl
theorem RelC.held {P : jP} {M : jM} {A : aS} (h : RelC P M A) {l c : Nat} (hl : l < A.1 2) (hc : c < 2 ^ A.1 0) : M (64 + 8 * l + 2) c = A.2 9 (512 * l + c) := by
  have h6 := h.num
  unfold wfNum at h6
  have e1 : (64 + 8 * l + 2 - 64) / 8 = l := by omega
  have e2 : (64 + 8 * l + 2 - 64) % 8 = 2 := by omega
  rw [h.2.2.2 _ _ (show pCd A (64 + 8 * l + 2) c by unfold pCd; rw [e1, e2]; exact Or.inl ⟨by omega, hl, Or.inr (Or.inr (Or.inl ⟨rfl, hc⟩))⟩)]
  unfold cTd
  rw [if_pos (by omega), e1, e2]
  rfl
theorem RelC.many {P : jP} {M : jM} {A : aS} (h : RelC P M A) {l : Nat} (hl : l < A.1 2) : M (64 + 8 * l) 0 = A.2 10 l := by
  have h6 := h.num
  unfold wfNum at h6
  have e1 : (64 + 8 * l - 64) / 8 = l := by omega
  have e2 : (64 + 8 * l - 64) % 8 = 0 := by omega
  rw [h.2.2.2 _ _ (show pCd A (64 + 8 * l) 0 by unfold pCd; rw [e1, e2]; exact Or.inl ⟨by omega, hl, Or.inl ⟨rfl, rfl⟩⟩)]
  unfold cTd
  rw [if_pos (by omega), e1, e2]
  rfl
theorem RelC.out {P : jP} {M : jM} {A : aS} (h : RelC P M A) {l k : Nat} (hl : l < A.1 2) (hk : k < (A.2 10 l).toNatClampNeg) : M (64 + 8 * l + 1) k = A.2 11 (12 * l + k) := by
  have h6 := h.num
  unfold wfNum at h6
  have e1 : (64 + 8 * l + 1 - 64) / 8 = l := by omega
  have e2 : (64 + 8 * l + 1 - 64) % 8 = 1 := by omega
  rw [h.2.2.2 _ _ (show pCd A (64 + 8 * l + 1) k by unfold pCd; rw [e1, e2]; exact Or.inl ⟨by omega, hl, Or.inr (Or.inl ⟨rfl, hk⟩)⟩)]
  unfold cTd
  rw [if_pos (by omega), e1, e2]
  rfl
section S11
variable {P : jP} {Q : Int32 → Prop} {a b : Int32}
theorem s11_lawAt {M : jM} {A : aS} (h : RelC P M A) {Q : Nat → Prop} (h0 : ¬ okL A a → Q 0) (h1 : ∀ l, l < A.1 2 → a = nI l → Q (64 + 8 * l)) : w_X11_lawAt P a M Q := by
  have h6 := h.num
  unfold wfNum at h6
  unfold w_X11_lawAt
  rw [h.lawn]
  intro R hR
  refine br_c (fun z => hR (h0 (fun q => q.1 z))) (fun z1 => br_c (fun z => hR (h0 (fun q => q.2 z))) (fun z2 => ?_))
  obtain ⟨l, hl, rfl⟩ := (ok3 (by omega)).mp ⟨z1, z2⟩
  refine ⟨vin (by omega) (by omega), ?_⟩
  rw [nI_clamp (by omega), h.law hl, nI_clamp (by omega)]
  exact h1 l hl rfl
theorem s11_formAt {M : jM} {A : aS} (h : RelC P M A) {Q : Nat → Prop} (h0 : ¬ okF A a → Q 0) (h1 : ∀ l, l < A.1 4 → a = nI l → Q (128 + 4 * l)) : w_X11_formAt P a M Q := by
  have h6 := h.num
  unfold wfNum at h6
  unfold w_X11_formAt
  rw [h.formn]
  intro R hR
  refine br_c (fun z => hR (h0 (fun q => q.1 z))) (fun z1 => br_c (fun z => hR (h0 (fun q => q.2 z))) (fun z2 => ?_))
  obtain ⟨l, hl, rfl⟩ := (ok3 (by omega)).mp ⟨z1, z2⟩
  refine ⟨vin (by omega) (by omega), ?_⟩
  rw [nI_clamp (by omega), h.form hl, nI_clamp (by omega)]
  exact h1 l hl rfl
theorem full_lt {n : Nat} (hn : n ≤ 9) {a : Int32} (ha : ¬ a < 0) : nI (2 ^ n - 1) < a ↔ nI (2 ^ n) ≤ a := by
  have h1 := two_le hn
  have h2 : 0 < 2 ^ n := Nat.two_pow_pos n
  obtain ⟨j, hj, rfl⟩ := nI_of ha
  rw [nI_ltI (by omega) hj, nI_leI (by omega) hj]
  omega
theorem s11_isCase {M : jM} {A : aS} (h : RelC P M A) (hq : Q (bi (okC A a))) : w_X3_isCase P a M Q := by
  unfold w_X3_isCase
  rw [h.full]
  by_cases ha : a < 0
  · rw [bi_f (fun z => z.1 ha)] at hq
    exact br_t ha hq
  · refine br_f ha ?_
    by_cases hb : nI (2 ^ A.1 0) ≤ a
    · rw [bi_f (fun z => z.2 hb)] at hq
      exact br_t ((full_lt h.n9 ha).mpr hb) hq
    · rw [bi_t ⟨ha, hb⟩] at hq
      exact br_f (fun z => hb ((full_lt h.n9 ha).mp z)) hq
theorem s11_isFact {M : jM} {A : aS} (h : RelC P M A) (hq : Q (bi (okN A a))) : w_X3_isFact P a M Q := by
  unfold w_X3_isFact
  rw [h.facts]
  exact chk2 hq
end S11
theorem jin_of {P : jP} {k nn i : Nat} (h : cIA P k = some nn) (hi : i < nn) (hn : nn < 2 ^ 31) : jin P k (nI i) := ⟨nn, h, vin hi hn⟩
