/-! reading: both sides as one; the loops behind a first part -/
def tl12A (E : jP → jM → (Int32 → jM → Prop) → Prop) (P : jP) (v : Int32) (M : jM) (Q : Int32 → jM → Prop) : Prop := ∀ R5 : Int32 → jM → Prop, (∀ (x4 : Int32) (M5 : jM), ( (¬ (M5 1 6) = (-1) → ( jb x4 ∧ Q x4 M5 )) ∧ ((M5 1 6) = (-1) → ( w_X12_look P M5 (fun r8 M9 => (¬ r8 = 38 → ( jb x4 ∧ Q x4 M9 )) ∧ (r8 = 38 → ( E P (upM M9 1 5 ((M9 1 5) + 1)) (fun r13 M14 => ∀ R50 : Int32 → Prop, (∀ (x16 : Int32), ( R5 x16 M14 ) → R50 x16) → (x4 = 0 → ( R50 0 )) ∧ (¬ x4 = 0 → ( (r13 = 0 → ( R50 0 )) ∧ (¬ r13 = 0 → ( R50 1 )) ))) ))) )) ) → R5 x4 M5) → R5 v M
def tl12O (E : jP → jM → (Int32 → jM → Prop) → Prop) (P : jP) (v : Int32) (M : jM) (Q : Int32 → jM → Prop) : Prop := ∀ R5 : Int32 → jM → Prop, (∀ (x4 : Int32) (M5 : jM), ( (¬ (M5 1 6) = (-1) → ( jb x4 ∧ Q x4 M5 )) ∧ ((M5 1 6) = (-1) → ( w_X12_look P M5 (fun r8 M9 => (¬ r8 = 124 → ( jb x4 ∧ Q x4 M9 )) ∧ (r8 = 124 → ( E P (upM M9 1 5 ((M9 1 5) + 1)) (fun r13 M14 => ∀ R50 : Int32 → Prop, (∀ (x16 : Int32), ( R5 x16 M14 ) → R50 x16) → (¬ x4 = 0 → ( R50 1 )) ∧ (x4 = 0 → ( (r13 = 0 → ( R50 0 )) ∧ (¬ r13 = 0 → ( R50 1 )) ))) ))) )) ) → R5 x4 M5) → R5 v M
def tl7A (E : jP → jM → (Int32 → jM → Prop) → Prop) (P : jP) (v : Int32) (x : Int32) (M : jM) (Q : Int32 → jM → Prop) : Prop := ∀ R8 : Int32 → Int32 → jM → Prop, (∀ (x4 : Int32) (x5 : Int32) (M6 : jM), ( (160 ≤ x5 → ( jb x4 ∧ Q x4 M6 )) ∧ (¬ 160 ≤ x5 → ( (x4 = 0 → ( jb x4 ∧ Q x4 M6 )) ∧ (¬ x4 = 0 → ( w_X10_passes P 38 M6 (fun r11 M12 => (r11 = 0 → ( jb x4 ∧ Q x4 M12 )) ∧ (¬ r11 = 0 → ( E P M12 (fun r16 M17 => ∀ R52 : Int32 → jM → Prop, (∀ (x19 : Int32) (M20 : jM), ( R8 x19 (x5 + 1) M20 ) → R52 x19 M20) → (r16 = 0 → ( R52 0 M17 )) ∧ (¬ r16 = 0 → ( w_X7_emit P 2 M17 (fun r22 M23 => (r22 = 0 → ( R52 0 M23 )) ∧ (¬ r22 = 0 → ( R52 1 M23 ))) ))) ))) )) )) ) → R8 x4 x5 M6) → R8 v x M
def tl7O (E : jP → jM → (Int32 → jM → Prop) → Prop) (P : jP) (v : Int32) (x : Int32) (M : jM) (Q : Int32 → jM → Prop) : Prop := ∀ R8 : Int32 → Int32 → jM → Prop, (∀ (x4 : Int32) (x5 : Int32) (M6 : jM), ( (160 ≤ x5 → ( jb x4 ∧ Q x4 M6 )) ∧ (¬ 160 ≤ x5 → ( (x4 = 0 → ( jb x4 ∧ Q x4 M6 )) ∧ (¬ x4 = 0 → ( w_X10_passes P 124 M6 (fun r11 M12 => (r11 = 0 → ( jb x4 ∧ Q x4 M12 )) ∧ (¬ r11 = 0 → ( E P M12 (fun r16 M17 => ∀ R52 : Int32 → jM → Prop, (∀ (x19 : Int32) (M20 : jM), ( R8 x19 (x5 + 1) M20 ) → R52 x19 M20) → (r16 = 0 → ( R52 0 M17 )) ∧ (¬ r16 = 0 → ( w_X7_emit P 3 M17 (fun r22 M23 => (r22 = 0 → ( R52 0 M23 )) ∧ (¬ r22 = 0 → ( R52 1 M23 ))) ))) ))) )) )) ) → R8 x4 x5 M6) → R8 v x M
abbrev jT : Type := jP → jM → (Int32 → jM → Prop) → Prop
def b01 (v : Int32) : Prop := v = 0 ∨ v = 1
theorem b01.jb {v : Int32} (h : b01 v) : jb v := by
  rcases h with rfl | rfl
  · exact jb_0
  · exact jb_1
theorem b01_bi {p : Prop} [Decidable p] : b01 (bi p) := by
  by_cases h : p
  · rw [bi_t h]; exact Or.inr rfl
  · rw [bi_f h]; exact Or.inl rfl
def fl12 (W : jT) (A : aS) (d i p : Nat) : Prop := ∀ (P : jP) (c : Nat) (M : jM) (Q : Int32 → jM → Prop), c < 512 → S12 M A c i d → (∀ v M', b01 v → f12 M M' → M' 1 6 = nI p → Q v M') → W P M Q
def sc12 (W : jT) (A : aS) (d i i' : Nat) (val : Nat → Bool) : Prop := ∀ (P : jP) (c : Nat) (M : jM) (Q : Int32 → jM → Prop), c < 512 → S12 M A c i d → (∀ M', f12 M M' → S12 M' A c i' d → Q (bi (val c = true)) M') → W P M Q
def fl7 (W : jT) (A : aS) (i p : Nat) : Prop := ∀ (P : jP) (M : jM) (k : Nat) (Q : Int32 → jM → Prop), S7 P M A i k → k ≤ i → (∀ M', f11 k M M' → M' 3 3 = nI p → Q 0 M') → W P M Q
def sc7 (W : jT) (A : aS) (i i' : Nat) (L : List Int32) : Prop := ∀ (P : jP) (M : jM) (k : Nat) (Q : Int32 → jM → Prop), S7 P M A i k → k ≤ i → (∀ M', f11 k M M' → M' 3 3 = M 3 3 → M' 3 2 = nI i' → M' 4 3 = nI (k + L.length) → (∀ j, j < L.length → M' 18 (k + j) = L.getD j 0) → Q 1 M') → W P M Q
/-- both sides read the same -/
def jo (W12 W7 : jT) (A : aS) (d i w : Nat) : Prop := (∃ p, p ≤ A.1 1 ∧ fl12 W12 A d i p ∧ fl7 W7 A i p) ∨ ∃ i' L val, i < i' ∧ i' ≤ A.1 1 ∧ L.length ≤ i' - i ∧ cOK L val w ∧ sc12 W12 A d i i' val ∧ sc7 W7 A i i' L
theorem hR_eq {A : aS} (hT : wfT A) {i v : Nat} (h1 : 1 ≤ v) (hv : v < 2 ^ 31) : hR A i = nI v ↔ chN A i = v := by
  unfold hR
  by_cases hi : i < A.1 1
  · rw [if_pos hi]; exact nI_32 hT hv
  · rw [if_neg hi, ch_out hi]
    exact ⟨fun z => absurd z.symm (nI_ne1 hv), fun z => by omega⟩
theorem n1_lt {v : Nat} (hv : v < 2 ^ 31) : (-1 : Int32) < nI v := by
  rw [Int32.lt_iff_toInt_lt, nI_toInt hv]
  have : (-1 : Int32).toInt = -1 := by decide
  omega
theorem hR_lt {A : aS} (hT : wfT A) {i v : Nat} (h1 : 1 ≤ v) (hv : v < 2 ^ 31) : hR A i < nI v ↔ chN A i < v := by
  unfold hR
  by_cases hi : i < A.1 1
  · rw [if_pos hi]
    have := ch_lt hT i
    exact nI_ltI (by omega) hv
  · rw [if_neg hi, ch_out hi]
    exact ⟨fun _ => by omega, fun _ => n1_lt hv⟩
theorem hR_gt {A : aS} (hT : wfT A) {i v : Nat} (hv : v < 2 ^ 31) : nI v < hR A i ↔ v < chN A i := by
  unfold hR
  by_cases hi : i < A.1 1
  · rw [if_pos hi]
    have := ch_lt hT i
    exact nI_ltI hv (by omega)
  · rw [if_neg hi, ch_out hi]
    exact ⟨fun z => absurd (Int32.lt_trans z (n1_lt hv)) (Int32.lt_irrefl), fun z => by omega⟩
theorem hR_le {A : aS} (hT : wfT A) {i v : Nat} (hv : v < 2 ^ 31) : hR A i ≤ nI v ↔ chN A i ≤ v := by
  rw [← Int32.not_lt, hR_gt hT hv, Nat.not_lt]
theorem hR_ge {A : aS} (hT : wfT A) {i v : Nat} (h1 : 1 ≤ v) (hv : v < 2 ^ 31) : nI v ≤ hR A i ↔ v ≤ chN A i := by
  rw [← Int32.not_lt, hR_lt hT h1 hv, Nat.not_lt]
theorem ch_len {A : aS} {i v : Nat} (h : chN A i = v) (hv : 1 ≤ v) : i < A.1 1 := by
  apply Classical.byContradiction
  intro z
  rw [ch_out z] at h
  omega
theorem s12_fails {P : jP} {M : jM} {p : Nat} (e5 : M 1 5 = nI p) (e6 : M 1 6 = -1) {Q : Int32 → jM → Prop} (hq : ∀ M', f12 M M' → M' 1 6 = nI p → Q 0 M') : w_X12_fails P M Q := by
  unfold w_X12_fails
  rw [e6]
  exact ⟨fun z => absurd rfl z, fun _ => hq _ (f12.up (by omega) _) (by rw [up_at, if_pos rfl, e5])⟩
theorem s12_failsN {P : jP} {M : jM} {p : Nat} (e6 : M 1 6 = nI p) (hp : p < 2 ^ 31) {Q : Int32 → jM → Prop} (hq : Q 0 M) : w_X12_fails P M Q := by
  unfold w_X12_fails
  rw [e6]
  exact ⟨fun _ => hq, fun z => absurd z (nI_ne1 hp)⟩
theorem s11_emit {P : jP} {M : jM} {k : Nat} {cd : Int32} (e : M 4 3 = nI k) (hk : k < 160) {Q : Int32 → jM → Prop} (hq : ∀ M', f11 k M M' → (∀ j, M' 3 j = M 3 j) → M' 4 3 = nI (k + 1) → M' 18 k = cd → Q 1 M') : w_X7_emit P cd M Q := by
  unfold w_X7_emit
  rw [e, nI_clamp (show k < 2 ^ 31 by omega)]
  refine br_t ((nI_ltI (b := 160) (by omega) (by omega)).mpr hk) ⟨vin hk (by omega), ?_⟩
  rintro M3 rfl
  refine hq _ ((f11.u4 _).trans (f11.u18 (Nat.le_refl k) _) (Nat.le_refl k)) (fun j => by rw [up_of _ _ _ _ (by omega), up_of _ _ _ _ (by omega)]) (by rw [up_of _ _ _ _ (by omega), up_at, if_pos rfl, nI_1]) (by rw [up_at, if_pos rfl])
theorem s11_passes {P : jP} {M : jM} {A : aS} (h : RelC P M A) (hT : wfT A) {i v : Nat} (hv : v < 2 ^ 31) (e : M 3 2 = nI i) (hi : i ≤ A.1 1) {Q : Int32 → jM → Prop} (q1 : chN A (skN A i) = v → ∀ M', (∀ q, q ≠ 3 → M' q = M q) → (∀ j, j ≠ 2 → M' 3 j = M 3 j) → M' 3 2 = nI (skN A i + 1) → Q 1 M') (q0 : ¬ chN A (skN A i) = v → ∀ M', (∀ q, q ≠ 3 → M' q = M q) → (∀ j, j ≠ 2 → M' 3 j = M 3 j) → M' 3 2 = nI (skN A i) → Q 0 M') : w_X10_passes P (nI v) M Q := by
  unfold w_X10_passes
  refine s11_next h hT e hi (fun M' g1 g2 g3 => ?_)
  rw [nI_32 hT hv]
  refine br_c (fun z => q1 z _ (fun q hq => by rw [upM_ne _ _ _ hq]; exact g1 q hq) (fun j hj => by rw [up_at, if_neg hj]; exact g2 j hj) (by rw [up_at, if_pos rfl, g3, nI_1])) (fun z => q0 z M' g1 g2 g3)
theorem f11_of3 {k : Nat} {M M' : jM} (g1 : ∀ q, q ≠ 3 → M' q = M q) (g2 : ∀ j, j ≠ 2 → j ≠ 3 → M' 3 j = M 3 j) : f11 k M M' := ⟨fun q a _ _ => g1 q a, g2, fun j _ => by rw [g1 4 (by omega)], fun j _ => by rw [g1 18 (by omega)]⟩
theorem s11_needs {P : jP} {M : jM} {A : aS} (h : RelC P M A) (hT : wfT A) {i v : Nat} (hv : v < 2 ^ 31) (e : M 3 2 = nI i) (hi : i ≤ A.1 1) {Q : Int32 → jM → Prop} (q1 : chN A (skN A i) = v → ∀ M', (∀ q, q ≠ 3 → M' q = M q) → (∀ j, j ≠ 2 → M' 3 j = M 3 j) → M' 3 2 = nI (skN A i + 1) → Q 1 M') (q0 : ¬ chN A (skN A i) = v → ∀ M', (∀ q, q ≠ 3 → M' q = M q) → (∀ j, j ≠ 2 → j ≠ 3 → M' 3 j = M 3 j) → M' 3 3 = nI (skN A i) → Q 0 M') : w_X10_needs P (nI v) M Q := by
  unfold w_X10_needs
  refine s11_passes h hT hv e hi (fun z M' g1 g2 g3 => ⟨fun _ => q1 z M' g1 g2 g3, fun y => absurd y (by decide)⟩) (fun z M' g1 g2 g3 => ⟨fun y => absurd rfl y, fun _ => ?_⟩)
  unfold w_X10_miss
  refine ⟨fun _ => q0 z _ (fun q hq => by rw [upM_ne _ _ _ hq]; exact g1 q hq) (fun j a b => by rw [up_at, if_neg b]; exact g2 j a) (by rw [up_at, if_pos rfl, g3]), fun y => absurd rfl y⟩
theorem getD_app {L1 L2 : List Int32} {j : Nat} : (L1 ++ L2).getD j 0 = if j < L1.length then L1.getD j 0 else L2.getD (j - L1.length) 0 := by
  rw [List.getD_eq_getElem?_getD, List.getD_eq_getElem?_getD, List.getD_eq_getElem?_getD]
  by_cases h : j < L1.length
  · rw [if_pos h, List.getElem?_append_left h]
  · rw [if_neg h, List.getElem?_append_right (by omega)]
