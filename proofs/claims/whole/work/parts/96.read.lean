/-! reading: signs, blanks -/
def wfT (A : aS) : Prop := ∀ j, j < A.1 1 → ¬ A.2 2 j &&& 255 = 0
def chN (A : aS) (i : Nat) : Nat := if i < A.1 1 then (A.2 2 i &&& 255).toNatClampNeg else 0
theorem ch_in {A : aS} (h : wfT A) {i : Nat} (hi : i < A.1 1) : A.2 2 i &&& 255 = nI (chN A i) ∧ 1 ≤ chN A i ∧ chN A i < 256 := by
  obtain ⟨j, j1, j2⟩ : ∃ j : Nat, j < 2 ^ 8 ∧ A.2 2 i &&& 255 = nI j := pk_andE _ 8 (by decide)
  have hne := h i hi
  unfold chN
  rw [if_pos hi, j2, nI_clamp (show j < 2 ^ 31 by omega)]
  refine ⟨rfl, ?_, j1⟩
  rcases Nat.eq_zero_or_pos j with z | z
  · rw [j2, z] at hne; exact absurd rfl hne
  · exact z
theorem ch_out {A : aS} {i : Nat} (hi : ¬ i < A.1 1) : chN A i = 0 := if_neg hi
theorem ch_lt {A : aS} (h : wfT A) (i : Nat) : chN A i < 256 := by
  by_cases hi : i < A.1 1
  · exact (ch_in h hi).2.2
  · rw [ch_out hi]; omega
def hR (A : aS) (i : Nat) : Int32 := if i < A.1 1 then nI (chN A i) else -1
def skF (A : aS) : Nat → Nat → Nat
  | 0, i => i
  | d + 1, i => if chN A i = 32 then skF A d (i + 1) else i
def skN (A : aS) (i : Nat) : Nat := skF A (A.1 1 - i) i
theorem skN_out {A : aS} {i : Nat} (h : ¬ chN A i = 32) : skN A i = i := by
  unfold skN
  cases A.1 1 - i with
  | zero => rfl
  | succ d => exact if_neg h
theorem skN_in {A : aS} {i : Nat} (h : chN A i = 32) : i < A.1 1 ∧ skN A i = skN A (i + 1) := by
  have hi : i < A.1 1 := by
    apply Classical.byContradiction
    intro z
    rw [ch_out z] at h
    omega
  refine ⟨hi, ?_⟩
  unfold skN
  rw [show A.1 1 - i = (A.1 1 - (i + 1)) + 1 by omega]
  show (if chN A i = 32 then skF A (A.1 1 - (i + 1)) (i + 1) else i) = _
  rw [if_pos h]
theorem skN_ok {A : aS} : ∀ d i, i + d = A.1 1 → i ≤ skN A i ∧ skN A i ≤ A.1 1 ∧ ¬ chN A (skN A i) = 32
  | 0, i, hd => by
    have : ¬ chN A i = 32 := by rw [ch_out (by omega)]; omega
    rw [skN_out this]
    exact ⟨Nat.le_refl _, by omega, this⟩
  | d + 1, i, hd => by
    by_cases h : chN A i = 32
    · rw [(skN_in h).2]
      obtain ⟨a, b, c⟩ := skN_ok (A := A) d (i + 1) (by omega)
      exact ⟨by omega, b, c⟩
    · rw [skN_out h]
      exact ⟨Nat.le_refl _, by omega, h⟩
theorem skN_le {A : aS} {i : Nat} (h : i ≤ A.1 1) : i ≤ skN A i ∧ skN A i ≤ A.1 1 ∧ ¬ chN A (skN A i) = 32 := skN_ok (A.1 1 - i) i (by omega)
theorem skN_sk {A : aS} {i : Nat} (h : i ≤ A.1 1) : skN A (skN A i) = skN A i := skN_out (skN_le h).2.2
/-- the reference's reader -/
def f12 (M M' : jM) : Prop := (∀ k, k ≠ 1 → M' k = M k) ∧ ∀ j, j ≠ 5 → j ≠ 6 → j ≠ 7 → M' 1 j = M 1 j
theorem f12.refl (M : jM) : f12 M M := ⟨fun _ _ => rfl, fun _ _ _ _ => rfl⟩
theorem f12.trans {M M' M2 : jM} (h : f12 M M') (h' : f12 M' M2) : f12 M M2 := ⟨fun k a => (h'.1 k a).trans (h.1 k a), fun j a b c => (h'.2 j a b c).trans (h.2 j a b c)⟩
theorem f12.up {M : jM} {j : Nat} (hj : j = 5 ∨ j = 6 ∨ j = 7) (v : Int32) : f12 M (upM M 1 j v) := ⟨fun k a => upM_ne _ _ _ a, fun i a b c => by rw [up_at, if_neg (by omega)]⟩
theorem RelM.f12 {M M' : jM} {A : aS} (h : RelM M A) (g : f12 M M') : RelM M' A := by
  refine ⟨h.1, fun k j hp => ?_⟩
  by_cases hk : k = 1
  · subst hk
    have : j ≠ 5 ∧ j ≠ 6 ∧ j ≠ 7 := by
      unfold pA at hp
      omega
    rw [g.2 j this.1 this.2.1 this.2.2]
    exact h.2 1 j hp
  · rw [g.1 k hk]
    exact h.2 k j hp
/-- what a reader needs of the reference's tables -/
def RelW (M : jM) (A : aS) : Prop := wfA A ∧ ∀ k j, pA A k j → k ≤ 3 → M k j = A.2 k j
theorem RelM.w {M : jM} {A : aS} (h : RelM M A) : RelW M A := ⟨h.1, fun k j hp _ => h.2 k j hp⟩
theorem RelW.num {M : jM} {A : aS} (h : RelW M A) : wfNum A := h.1.1
theorem RelW.facts {M : jM} {A : aS} (h : RelW M A) : M 1 1 = nI (A.1 0) := (h.2 1 1 (by unfold pA; omega) (by omega)).trans h.1.2.1.1
theorem RelW.len {M : jM} {A : aS} (h : RelW M A) : M 1 4 = nI (A.1 1) := (h.2 1 4 (by unfold pA; omega) (by omega)).trans h.1.2.1.2.2.1
theorem RelW.byte {M : jM} {A : aS} (h : RelW M A) {j : Nat} (hj : j < A.1 1) : M 2 j = A.2 2 j := h.2 2 j (by unfold pA; omega) (by omega)
theorem RelW.f12 {M M' : jM} {A : aS} (h : RelW M A) (g : f12 M M') : RelW M' A := by
  refine ⟨h.1, fun k j hp hn => ?_⟩
  by_cases hk : k = 1
  · subst hk
    have : j ≠ 5 ∧ j ≠ 6 ∧ j ≠ 7 := by
      unfold pA at hp
      omega
    rw [g.2 j this.1 this.2.1 this.2.2]
    exact h.2 1 j hp hn
  · rw [g.1 k hk]
    exact h.2 k j hp hn
def S12 (M : jM) (A : aS) (c i d : Nat) : Prop := RelW M A ∧ M 1 5 = nI i ∧ M 1 6 = -1 ∧ M 1 7 = nI d ∧ M 1 8 = nI c
theorem s12_here {P : jP} {M : jM} {A : aS} (h : RelW M A) (hT : wfT A) {i : Nat} (e5 : M 1 5 = nI i) (hi : i ≤ A.1 1) {Q : Int32 → Prop} (hq : Q (hR A i)) : w_X12_here P M Q := by
  have h6 := h.num
  unfold wfNum at h6
  unfold w_X12_here
  rw [h.len, e5, nI_leI (by omega) (by omega), nI_clamp (show i < 2 ^ 31 by omega)]
  unfold hR at hq
  refine br_c (fun z => ?_) (fun z => ⟨vin (by omega) (by omega), ?_⟩)
  · rw [if_neg (by omega)] at hq; exact hq
  · rw [if_pos (by omega)] at hq
    rw [h.byte (by omega), (ch_in hT (by omega)).1]
    exact hq
theorem hR_32 {A : aS} (hT : wfT A) {i : Nat} : hR A i = 32 ↔ chN A i = 32 := by
  unfold hR
  by_cases hi : i < A.1 1
  · rw [if_pos hi]
    have := ch_lt hT i
    exact nI_eq (b := 32) (by omega) (by omega)
  · rw [if_neg hi, ch_out hi]
    exact ⟨fun z => absurd z (by decide), fun z => absurd z (by omega)⟩
theorem s12_look {P : jP} {M : jM} {A : aS} (h : RelW M A) (hT : wfT A) {i : Nat} (e5 : M 1 5 = nI i) (hi : i ≤ A.1 1) {Q : Int32 → jM → Prop} (hq : ∀ M', f12 M M' → (∀ j, j ≠ 5 → M' 1 j = M 1 j) → M' 1 5 = nI (skN A i) → Q (hR A (skN A i)) M') : w_X12_look P M Q := by
  unfold w_X12_look
  intro R hR0
  have key : ∀ d i, i + d = A.1 1 → ∀ M', f12 M M' → (∀ j, j ≠ 5 → M' 1 j = M 1 j) → M' 1 5 = nI i → (∀ M2, f12 M M2 → (∀ j, j ≠ 5 → M2 1 j = M 1 j) → M2 1 5 = nI (skN A i) → Q (hR A (skN A i)) M2) → R M' := by
    intro d
    induction d with
    | zero =>
      intro i hd M' g g5 e hq
      have hno : ¬ chN A i = 32 := by rw [ch_out (by omega)]; omega
      refine hR0 M' (s12_here (h.f12 g) hT e (by omega) ⟨fun _ => s12_here (h.f12 g) hT e (by omega) ?_, fun z => absurd ((hR_32 hT).mp z) hno⟩)
      rw [skN_out hno] at hq
      exact hq M' g g5 e
    | succ d ih =>
      intro i hd M' g g5 e hq
      refine hR0 M' (s12_here (h.f12 g) hT e (by omega) (bn_c (fun z => s12_here (h.f12 g) hT e (by omega) ?_) (fun z => ?_)))
      · have hno : ¬ chN A i = 32 := fun y => z ((hR_32 hT).mpr y)
        rw [skN_out hno] at hq
        exact hq M' g g5 e
      · have hy := (hR_32 hT).mp z
        rw [e, nI_1]
        refine ih (i + 1) (by omega) _ (g.trans (f12.up (by omega) _)) (fun j hj => by rw [up_at, if_neg hj]; exact g5 j hj) (by rw [up_at, if_pos rfl]) (fun M2 a b c => ?_)
        rw [← (skN_in hy).2] at c ⊢
        exact hq M2 a b c
  exact key (A.1 1 - i) i (by omega) M (f12.refl M) (fun _ _ => rfl) e5 hq
/-- the class's reader -/
def f11 (k : Nat) (M M' : jM) : Prop := (∀ q, q ≠ 3 → q ≠ 4 → q ≠ 18 → M' q = M q) ∧ (∀ j, j ≠ 2 → j ≠ 3 → M' 3 j = M 3 j) ∧ (∀ j, j ≠ 3 → M' 4 j = M 4 j) ∧ ∀ j, j < k → M' 18 j = M 18 j
theorem f11.refl (k : Nat) (M : jM) : f11 k M M := ⟨fun _ _ _ _ => rfl, fun _ _ _ => rfl, fun _ _ => rfl, fun _ _ => rfl⟩
theorem f11.trans {k k' : Nat} {M M' M2 : jM} (h : f11 k M M') (h' : f11 k' M' M2) (hk : k ≤ k') : f11 k M M2 := ⟨fun q a b c => (h'.1 q a b c).trans (h.1 q a b c), fun j a b => (h'.2.1 j a b).trans (h.2.1 j a b), fun j a => (h'.2.2.1 j a).trans (h.2.2.1 j a), fun j a => (h'.2.2.2 j (by omega)).trans (h.2.2.2 j a)⟩
theorem f11.u3 {k : Nat} {M : jM} {j : Nat} (hj : j = 2 ∨ j = 3) (v : Int32) : f11 k M (upM M 3 j v) := ⟨fun q a _ _ => upM_ne _ _ _ a, fun i a b => by rw [up_at, if_neg (by omega)], fun i _ => up_of _ _ _ _ (by omega), fun i _ => up_of _ _ _ _ (by omega)⟩
theorem f11.u4 {k : Nat} {M : jM} (v : Int32) : f11 k M (upM M 4 3 v) := ⟨fun q _ b _ => upM_ne _ _ _ b, fun i _ _ => up_of _ _ _ _ (by omega), fun i a => by rw [up_at, if_neg a], fun i _ => up_of _ _ _ _ (by omega)⟩
theorem f11.u18 {k j : Nat} {M : jM} (hj : k ≤ j) (v : Int32) : f11 k M (upM M 18 j v) := ⟨fun q _ _ c => upM_ne _ _ _ c, fun i _ _ => up_of _ _ _ _ (by omega), fun i _ => up_of _ _ _ _ (by omega), fun i a => by rw [up_at, if_neg (by omega)]⟩
theorem RelC.f11 {P : jP} {M M' : jM} {A : aS} {k : Nat} (h : RelC P M A) (g : f11 k M M') : RelC P M' A := by
  refine h.agree (fun q j hj => ?_) (fun q j hj => ?_)
  · by_cases e3 : q = 3
    · subst e3
      have : j = 1 := hj
      exact g.2.1 j (by omega) (by omega)
    · by_cases e4 : q = 4
      · subst e4
        have : j = 1 ∨ j = 9 := hj
        exact g.2.2.1 j (by omega)
      · by_cases e18 : q = 18
        · subst e18; exact absurd hj (fun z => z)
        · rw [g.1 q e3 e4 e18]
  · have := pCd_ge hj
    rw [g.1 q (by omega) (by omega) (by omega)]
def S7 (P : jP) (M : jM) (A : aS) (i k : Nat) : Prop := RelC P M A ∧ M 3 2 = nI i ∧ M 4 3 = nI k
theorem s11_here {P : jP} {M : jM} {A : aS} (h : RelC P M A) (hT : wfT A) {i : Nat} (e : M 3 2 = nI i) (hi : i ≤ A.1 1) {Q : Int32 → Prop} (hq : Q (nI (chN A i))) : w_X10_here P M Q := by
  have h6 := h.num
  unfold wfNum at h6
  unfold w_X10_here
  rw [e, h.len, nI_leI (by omega) (by omega), nI_clamp (show i < 2 ^ 31 by omega)]
  refine br_f (nI_pos (by omega)) (br_c (fun z => ?_) (fun z => ⟨vin (by omega) (by omega), ?_⟩))
  · rw [ch_out (by omega)] at hq; exact hq
  · have e17 : M 17 i = A.2 2 i &&& 255 := h.2.2.1 17 i (show i < A.1 1 by omega)
    rw [e17, (ch_in hT (by omega)).1]
    exact hq
theorem nI_32 {A : aS} (hT : wfT A) {i v : Nat} (hv : v < 2 ^ 31) : nI (chN A i) = nI v ↔ chN A i = v := by
  have := ch_lt hT i
  exact nI_eq (by omega) hv
theorem s11_next {P : jP} {M : jM} {A : aS} (h : RelC P M A) (hT : wfT A) {i : Nat} (e : M 3 2 = nI i) (hi : i ≤ A.1 1) {Q : Int32 → jM → Prop} (hq : ∀ M', (∀ q, q ≠ 3 → M' q = M q) → (∀ j, j ≠ 2 → M' 3 j = M 3 j) → M' 3 2 = nI (skN A i) → Q (nI (chN A (skN A i))) M') : w_X10_next P M Q := by
  have h6 := h.num
  unfold wfNum at h6
  unfold w_X10_next
  intro R hR0
  have key : ∀ d x i, i + d = A.1 1 → x ≤ i → ∀ M', (∀ q, q ≠ 3 → M' q = M q) → (∀ j, j ≠ 2 → M' 3 j = M 3 j) → M' 3 2 = nI i → (∀ M2, (∀ q, q ≠ 3 → M2 q = M q) → (∀ j, j ≠ 2 → M2 3 j = M 3 j) → M2 3 2 = nI (skN A i) → Q (nI (chN A (skN A i))) M2) → R (nI x) M' := by
    intro d
    induction d with
    | zero =>
      intro x i hd hx M' g1 g2 e hq
      have h' : RelC P M' A := h.f11 (k := 0) ⟨fun q a _ _ => g1 q a, fun j a _ => g2 j a, fun j _ => by rw [g1 4 (by omega)], fun j z => absurd z (Nat.not_lt_zero j)⟩
      have hno : ¬ chN A i = 32 := by rw [ch_out (by omega)]; omega
      refine hR0 _ _ ?_
      intro R34 h34
      have r : R34 := h34 (s11_here h' hT e (by omega) (by rw [skN_out hno] at hq; exact hq M' g1 g2 e))
      exact ⟨fun _ => r, fun _ => s11_here h' hT e (by omega) ⟨fun _ => r, fun z => absurd ((nI_32 (v := 32) hT (by omega)).mp z) hno⟩⟩
    | succ d ih =>
      intro x i hd hx M' g1 g2 e hq
      have h' : RelC P M' A := h.f11 (k := 0) ⟨fun q a _ _ => g1 q a, fun j a _ => g2 j a, fun j _ => by rw [g1 4 (by omega)], fun j z => absurd z (Nat.not_lt_zero j)⟩
      refine hR0 _ _ ?_
      intro R34 h34
      refine br_f (nI_ge (b := 160) (show x < 160 by omega) (by omega)) (s11_here h' hT e (by omega) (bn_c (fun z => ?_) (fun z => ?_)))
      · have hno : ¬ chN A i = 32 := fun y => z ((nI_32 (v := 32) hT (by omega)).mpr y)
        exact h34 (s11_here h' hT e (by omega) (by rw [skN_out hno] at hq; exact hq M' g1 g2 e))
      · have hy := (nI_32 (v := 32) hT (by omega)).mp z
        rw [e, nI_1, nI_1]
        refine ih (x + 1) (i + 1) (by omega) (by omega) _ (fun q hq2 => by rw [upM_ne _ _ _ hq2]; exact g1 q hq2) (fun j hj => by rw [up_at, if_neg hj]; exact g2 j hj) (by rw [up_at, if_pos rfl]) (fun M2 a b c => ?_)
        rw [← (skN_in hy).2] at c ⊢
        exact hq M2 a b c
  exact key (A.1 1 - i) 0 i (by omega) (Nat.zero_le _) M (fun _ _ => rfl) (fun _ _ => rfl) e hq
