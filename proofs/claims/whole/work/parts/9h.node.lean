/-! reading: a form's node, both sides -/
theorem RelC.fm' {P : jP} {M : jM} {A : aS} (h : RelC P M A) {l : Nat} (hl : l ≤ A.1 4) : cFm P (128 + 4 * l) = true := by
  have h6 := h.num
  unfold wfNum at h6
  have hp := h.2.1.2.2.2.2.2 l 0 hl (by omega)
  unfold cFm
  simp only [Bool.and_eq_true, Nat.ble_eq, Nat.blt_eq]
  exact ⟨⟨⟨by omega, by omega⟩, by rw [show (128 + 4 * l) % 4 = 0 by omega]; rfl⟩, hp⟩
theorem RelC.spare {P : jP} {M : jM} {A : aS} (h : RelC P M A) : M 4 9 = nI (128 + 4 * A.1 4) := h.2.2.1 4 9 (Or.inr rfl)
def spF (A : aS) : Nat := 128 + 4 * A.1 4
theorem spF_eq (A : aS) : spF A = 128 + 4 * A.1 4 := rfl
/-- frames of the reading of forms -/
def v12 (f k u : Nat) (M M' : jM) : Prop := (∀ q, q ≠ 1 → ¬ (4 ≤ q ∧ q ≤ 7) → M' q = M q) ∧ (∀ j, ¬ (5 ≤ j ∧ j ≤ 8) → j ≠ 16 → M' 1 j = M 1 j) ∧ (∀ q, 4 ≤ q → q ≤ 6 → ∀ j, (j < 12 * f + k ∨ 12 * f + u ≤ j) → M' q j = M q j) ∧ ∀ j, j ≠ f → M' 7 j = M 7 j
theorem v12.refl (f k u : Nat) (M : jM) : v12 f k u M M := ⟨fun _ _ _ => rfl, fun _ _ _ => rfl, fun _ _ _ _ _ => rfl, fun _ _ => rfl⟩
theorem v12.trans {f k k' u : Nat} {M M' M2 : jM} (h : v12 f k u M M') (h' : v12 f k' u M' M2) (hk : k ≤ k') : v12 f k u M M2 :=
  ⟨fun q a b => (h'.1 q a b).trans (h.1 q a b), fun j a b => (h'.2.1 j a b).trans (h.2.1 j a b), fun q a b j c => (h'.2.2.1 q a b j (by omega)).trans (h.2.2.1 q a b j c), fun j a => (h'.2.2.2 j a).trans (h.2.2.2 j a)⟩
theorem v12.mono {f k u w : Nat} {M M' : jM} (h : v12 f k u M M') (hu : u ≤ w) : v12 f k w M M' := ⟨h.1, h.2.1, fun q a b j c => h.2.2.1 q a b j (by omega), h.2.2.2⟩
theorem v12.of {f k u : Nat} {M M' : jM} (h : u12 M M') : v12 f k u M M' := ⟨fun q a _ => h.1 q a, fun j a b => h.2 j (by omega) b, fun q a b j _ => by rw [h.1 q (by omega)], fun j _ => by rw [h.1 7 (by omega)]⟩
theorem v12.up {f k u j : Nat} {M : jM} (hj : (5 ≤ j ∧ j ≤ 8) ∨ j = 16) (v : Int32) : v12 f k u M (upM M 1 j v) := ⟨fun q a _ => upM_ne _ _ _ a, fun i a b => by rw [up_at, if_neg (by omega)], fun q a b i _ => up_of _ _ _ _ (by omega), fun i _ => up_of _ _ _ _ (by omega)⟩
theorem v12.row {f k q : Nat} {M : jM} (h4 : 4 ≤ q) (h6 : q ≤ 6) (v : Int32) : v12 f k (k + 1) M (upM M q (12 * f + k) v) :=
  ⟨fun p a b => upM_ne _ _ _ (by omega), fun i _ _ => up_of _ _ _ _ (by omega), fun p a b i c => by
    by_cases e : p = q
    · subst e; rw [up_at, if_neg (by omega)]
    · rw [up_of _ _ _ _ e], fun i _ => up_of _ _ _ _ (by omega)⟩
theorem v12.up7 {f k u : Nat} {M : jM} (v : Int32) : v12 f k u M (upM M 7 f v) := ⟨fun p a b => upM_ne _ _ _ (by omega), fun i _ _ => up_of _ _ _ _ (by omega), fun p a b i c => up_of _ _ _ _ (by omega), fun i a => by rw [up_at, if_neg a]⟩
theorem RelW.v12 {M M' : jM} {A : aS} {f n u : Nat} (h : RelW M A) (g : v12 f n u M M') : RelW M' A := by
  refine ⟨h.1, fun k j hp hn => ?_⟩
  by_cases hk : k = 1
  · subst hk
    have : ¬ (5 ≤ j ∧ j ≤ 8) ∧ j ≠ 16 := by
      unfold pA at hp
      omega
    rw [g.2.1 j this.1 this.2]
    exact h.2 1 j hp hn
  · rw [g.1 k hk (by omega)]
    exact h.2 k j hp hn
theorem S12.v12 {M M' : jM} {A : aS} {c i d f n u : Nat} (h : S12 M A c i d) (g : v12 f n u M M') (h5 : ∀ j, 5 ≤ j → j ≤ 8 → M' 1 j = M 1 j) : S12 M' A c i d :=
  ⟨h.1.v12 g, (h5 5 (by omega) (by omega)).trans h.2.1, (h5 6 (by omega) (by omega)).trans h.2.2.1, (h5 7 (by omega) (by omega)).trans h.2.2.2.1, (h5 8 (by omega) (by omega)).trans h.2.2.2.2⟩
def v7 (A : aS) (k : Nat) (M M' : jM) : Prop := (∀ q, q ≠ 3 → q ≠ 4 → ¬ (spF A + 1 ≤ q ∧ q ≤ spF A + 3) → M' q = M q) ∧ (∀ j, j ≠ 2 → j ≠ 3 → M' 3 j = M 3 j) ∧ (∀ j, j ≠ 4 → j ≠ 10 → M' 4 j = M 4 j) ∧ ∀ q, spF A + 1 ≤ q → q ≤ spF A + 3 → ∀ j, j < k → M' q j = M q j
theorem v7.refl (A : aS) (k : Nat) (M : jM) : v7 A k M M := ⟨fun _ _ _ _ => rfl, fun _ _ _ => rfl, fun _ _ _ => rfl, fun _ _ _ _ _ => rfl⟩
theorem v7.trans {A : aS} {k k' : Nat} {M M' M2 : jM} (h : v7 A k M M') (h' : v7 A k' M' M2) (hk : k ≤ k') : v7 A k M M2 :=
  ⟨fun q a b c => (h'.1 q a b c).trans (h.1 q a b c), fun j a b => (h'.2.1 j a b).trans (h.2.1 j a b), fun j a b => (h'.2.2.1 j a b).trans (h.2.2.1 j a b), fun q a b j c => (h'.2.2.2 q a b j (by have := spF_eq A; omega)).trans (h.2.2.2 q a b j c)⟩
theorem v7.of {A : aS} {k : Nat} {M M' : jM} (h : u7 M M') : v7 A k M M' := ⟨fun q a b _ => h.1 q a b, h.2.1, fun j _ b => h.2.2 j b, fun q a _ j _ => by rw [h.1 q (by have := spF_eq A; omega) (by have := spF_eq A; omega)]⟩
theorem v7.row {A : aS} {k q j : Nat} {M : jM} (h1 : spF A + 1 ≤ q) (h2 : q ≤ spF A + 3) (hj : k ≤ j) (v : Int32) : v7 A k M (upM M q j v) :=
  ⟨fun p a b c => upM_ne _ _ _ (by have := spF_eq A; omega), fun i _ _ => up_of _ _ _ _ (by have := spF_eq A; omega), fun i _ _ => up_of _ _ _ _ (by have := spF_eq A; omega), fun p a b i c => by
    by_cases e : p = q
    · subst e; rw [up_at, if_neg (by have := spF_eq A; omega)]
    · rw [up_of _ _ _ _ e]⟩
theorem v7.put4 {A : aS} {k : Nat} {M : jM} (v : Int32) : v7 A k M (upM M 4 4 v) := ⟨fun p a b c => upM_ne _ _ _ b, fun i _ _ => up_of _ _ _ _ (by have := spF_eq A; omega), fun i a _ => by rw [up_at, if_neg a], fun p a b i c => up_of _ _ _ _ (by have := spF_eq A; omega)⟩
theorem RelC.v7 {P : jP} {M M' : jM} {A : aS} {k : Nat} (h : RelC P M A) (g : v7 A k M M') : RelC P M' A := by
  have h6 := h.num
  unfold wfNum at h6
  have hsp := spF_eq A
  refine h.agree (fun q j hj => ?_) (fun q j hj => ?_)
  · by_cases e3 : q = 3
    · subst e3
      have : j = 1 := hj
      exact g.2.1 j (by omega) (by omega)
    · by_cases e4 : q = 4
      · subst e4
        have : j = 1 ∨ j = 9 := hj
        exact g.2.2.1 j (by omega) (by omega)
      · by_cases es : 64 ≤ q
        · unfold pCs at hj
          split at hj <;> first | omega | exact absurd hj (fun z => z)
        · rw [g.1 q e3 e4 (by omega)]
  · have := pCd_ge hj
    unfold pCd at hj
    rw [g.1 q (by omega) (by omega) (by omega)]
theorem RelC.fia' {P : jP} {M : jM} {A : aS} (h : RelC P M A) {r : Nat} (h1 : 1 ≤ r) (h3 : r ≤ 3) : cIA P (spF A + r) = some 12 := by
  have h6 := h.num
  unfold wfNum at h6
  have hp := h.2.1.2.2.2.2.2 (A.1 4) r (Nat.le_refl _) h3
  rw [spF_eq]
  unfold cIA
  rw [if_neg (by omega), if_neg (by omega), if_pos]
  simp only [Bool.and_eq_true, Nat.ble_eq, Nat.blt_eq, Bool.not_eq_true']
  refine ⟨⟨⟨by omega, by omega⟩, ?_⟩, hp⟩
  rw [show (128 + 4 * A.1 4 + r) % 4 = r by omega]
  match r, h1 with
  | r + 1, _ => rfl
def nd12 (P : jP) (a1 : Int32) (B Q : jM → Prop) (M5 : jM) : Prop :=
  w_X12_look P M5 (fun r16 M17 => w_X12_isFact P r16 M17 (fun r19 => (¬ r19 = 0 → (vp_in a1 (7) ∧ ∀ y24 : Int32, y24 = (12 * a1) + ((upM M17 1 5 ((M17 1 5) + 1)) 7 a1.toNatClampNeg) → vp_in y24 (84) ∧ ∀ M26 : jM, M26 = upM (upM M17 1 5 ((M17 1 5) + 1)) 4 y24.toNatClampNeg (r16 - 97) → w_X12_takes P 62 M26 (fun r27 M28 => (¬ r27 = 0 → (vp_in a1 (7) ∧ w_X12_target P (M28 7 a1.toNatClampNeg) M28 (fun r32 M33 => vp_in y24 (84) ∧ w_X12_takes P 44 (upM M33 5 y24.toNatClampNeg r32) (fun r36 M37 => (¬ r36 = 0 → (vp_in a1 (7) ∧ w_X12_target P (M37 7 a1.toNatClampNeg) M37 (fun r41 M42 => vp_in y24 (84) ∧ (((upM M42 6 y24.toNatClampNeg r41) 1 6) = (-1) → B (upM M42 6 y24.toNatClampNeg r41)) ∧ (¬ ((upM M42 6 y24.toNatClampNeg r41) 1 6) = (-1) → Q (upM M42 6 y24.toNatClampNeg r41))))) ∧ (r36 = 0 → (Q M37)))))) ∧ (r27 = 0 → (Q M28))))) ∧ (r19 = 0 → (w_X12_fails P M17 (fun r61 M62 => Q M62)))))
theorem hiT_lt {h v : Nat} (hh : h < 12) : hiT h v < 12 := by
  unfold hiT
  split <;> omega
theorem hiT_ge (h v : Nat) : h ≤ hiT h v := by
  unfold hiT
  split <;> omega
theorem hiT_v {h v : Nat} (hv : v < 12) : v ≤ hiT h v := by
  unfold hiT
  rw [if_pos hv]
  omega
def tOwn (k v : Nat) : Prop := (k < v ∧ v < 12) ∨ (99 ≤ v ∧ v ≤ 105)
theorem tconv_ne {k v : Nat} (h : tOwn k v) : ¬ tconv (nI v) = -1 := by
  rcases h with h | h
  · rw [tconv_lo h.2]; exact nI_ne1 (by omega)
  · rw [show v = 99 + (v - 99) by omega, tconv_hi (by omega)]; exact nI_ne1 (by omega)
def ndJ (A : aS) (k i : Nat) : Prop :=
  (∃ p, p ≤ A.1 1 ∧ (∀ (f : Nat), f ≤ 6 → ∀ (P : jP) (M : jM) (B Q : jM → Prop) (h : Nat), S12 M A 0 i 0 → M 1 16 = nI h → h < 12 → M 7 f = nI k → (∀ M', v12 f k (k + 1) M M' → M' 1 6 = nI p → Q M') → nd12 P (nI f) B Q M) ∧ ∀ (P : jP) (M : jM) (kk h : Nat) (Q : Int32 → jM → Prop), S7 P M A i kk → M 4 10 = nI h → h < 12 → (∀ M', v7 A k M M' → M' 3 3 = nI p → Q 0 M') → w_X7_node P (nI k) M Q) ∨
  ∃ i' x y z, i < i' ∧ i' ≤ A.1 1 ∧ x < A.1 0 ∧ tOwn k y ∧ tOwn k z ∧ (∀ (f : Nat), f ≤ 6 → ∀ (P : jP) (M : jM) (B Q : jM → Prop) (h : Nat), S12 M A 0 i 0 → M 1 16 = nI h → h < 12 → M 7 f = nI k → (∀ M', v12 f k (k + 1) M M' → S12 M' A 0 i' 0 → M' 1 16 = nI (hiT (hiT h y) z) → M' 7 f = nI k → M' 4 (12 * f + k) = nI x → M' 5 (12 * f + k) = nI y → M' 6 (12 * f + k) = nI z → B M') → nd12 P (nI f) B Q M) ∧ ∀ (P : jP) (M : jM) (kk h : Nat) (Q : Int32 → jM → Prop), S7 P M A i kk → M 4 10 = nI h → h < 12 → (∀ M', v7 A k M M' → M' 3 3 = M 3 3 → S7 P M' A i' kk → M' 4 10 = nI (hiT (hiT h y) z) → M' (spF A + 1) k = nI x → M' (spF A + 2) k = tconv (nI y) → M' (spF A + 3) k = tconv (nI z) → Q 1 M') → w_X7_node P (nI k) M Q
theorem nd_all {A : aS} (hT : wfT A) (h160 : A.1 1 ≤ 160) (h9 : A.1 0 ≤ 9) (h4 : A.1 4 ≤ 6) {k i : Nat} (hk : k < 12) (hi : i ≤ A.1 1) : ndJ A k i := by
  obtain ⟨k1, k2, k3⟩ := skN_le hi
  have hsp := spF_eq A
  have vf : ∀ f, f ≤ 6 → vp_in (nI f) 7 := fun f hf => vin (by omega) (by omega)
  have ef : ∀ f, f ≤ 6 → (nI f).toNatClampNeg = f := fun f hf => nI_clamp (by omega)
  have vy : ∀ f, f ≤ 6 → vp_in (nI (12 * f + k)) 84 := fun f hf => vin (by omega) (by omega)
  have ey : ∀ f, f ≤ 6 → (nI (12 * f + k)).toNatClampNeg = 12 * f + k := fun f hf => nI_clamp (by omega)
  have ek : (nI k).toNatClampNeg = k := nI_clamp (by omega)
  have eF : (nI (spF A)).toNatClampNeg = spF A := nI_clamp (by omega)
  have jF : ∀ {P : jP} {M : jM}, RelC P M A → ∀ r, 1 ≤ r → r ≤ 3 → jin P (spF A + r) (nI k) := fun hR r h1 h3 => jin_of (hR.fia' h1 h3) hk (by omega)
  by_cases hF : isF A (skN A i)
  · have hlen := F_len hF
    obtain ⟨x, hx, ex⟩ : ∃ x, x < A.1 0 ∧ chN A (skN A i) = 97 + x := ⟨chN A (skN A i) - 97, by omega, by omega⟩
    have e97 : nI (97 + x) - 97 = nI x := by
      rw [show (97 : Int32) = nI 97 from rfl, pk_sub (by omega)]
      congr 1; omega
    obtain ⟨m1, m2, m3⟩ := skN_le (A := A) (i := skN A i + 1) (by omega)
    -- up to the sign behind the fact
    have ref : ∀ (f : Nat), f ≤ 6 → ∀ (P : jP) (M : jM) (B Q : jM → Prop) (h : Nat), S12 M A 0 i 0 → M 1 16 = nI h → M 7 f = nI k → (∀ M', v12 f k (k + 1) M M' → S12 M' A 0 (skN A i + 1) 0 → M' 1 16 = nI h → M' 7 f = nI k → M' 4 (12 * f + k) = nI x → w_X12_takes P 62 M' (fun r27 M28 => (¬ r27 = 0 → (vp_in (nI f) (7) ∧ w_X12_target P (M28 7 f) M28 (fun r32 M33 => vp_in (nI (12 * f + k)) (84) ∧ w_X12_takes P 44 (upM M33 5 (12 * f + k) r32) (fun r36 M37 => (¬ r36 = 0 → (vp_in (nI f) (7) ∧ w_X12_target P (M37 7 f) M37 (fun r41 M42 => vp_in (nI (12 * f + k)) (84) ∧ (((upM M42 6 (12 * f + k) r41) 1 6) = (-1) → B (upM M42 6 (12 * f + k) r41)) ∧ (¬ ((upM M42 6 (12 * f + k) r41) 1 6) = (-1) → Q (upM M42 6 (12 * f + k) r41))))) ∧ (r36 = 0 → (Q M37)))))) ∧ (r27 = 0 → (Q M28)))) → nd12 P (nI f) B Q M := by
      intro f hf P M B Q h hs hh h7 hK
      unfold nd12
      refine hs.look hT hi (fun M17 g s => s12_isFact s.1 hT (br_j (fun _ => ⟨vf f hf, ?_⟩) (fun z => absurd hF z)))
      obtain ⟨g2, s2⟩ := s.inc
      have g3 : v12 f k (k + 1) M (upM M17 1 5 (M17 1 5 + 1)) := v12.of (u12.of (g.trans g2))
      have e7 : (upM M17 1 5 (M17 1 5 + 1)) 7 f = nI k := by rw [(g.trans g2).1 7 (by omega)]; exact h7
      rw [ef f hf, e7]
      rintro y24 rfl
      rw [show (12 : Int32) = nI 12 from rfl, pk_mul, nI_add, ey f hf]
      refine ⟨vy f hf, ?_⟩
      rintro M26 rfl
      rw [hR_F hF, ex, e97]
      have g4 : v12 f k (k + 1) M (upM (upM M17 1 5 (M17 1 5 + 1)) 4 (12 * f + k) (nI x)) := g3.trans (v12.row (by omega) (by omega) _) (Nat.le_refl k)
      exact hK _ g4 (s2.v12 (v12.row (f := f) (k := k) (by omega) (by omega) _) (fun j _ _ => up_of _ _ _ _ (by omega))) (by rw [up_of _ _ _ _ (by omega), (g.trans g2).2 16 (by omega) (by omega) (by omega)]; exact hh) (by rw [up_of _ _ _ _ (by omega)]; exact e7) (by rw [up_at, if_pos rfl])
    have cls : ∀ (P : jP) (M : jM) (kk h : Nat) (Q : Int32 → jM → Prop), S7 P M A i kk → M 4 10 = nI h → (∀ M', v7 A k M M' → M' 3 3 = M 3 3 → S7 P M' A (skN A i + 1) kk → M' 4 10 = nI h → M' (spF A + 1) k = nI x → w_X10_needs P 62 M' (fun r12 M13 => (¬ r12 = 0 → (((M13 4 9).toNatClampNeg) ≠ 0 ∧ cFm P ((M13 4 9).toNatClampNeg) = true ∧ w_X7_target P (nI k) M13 (fun r18 M19 => jin P (((M13 4 9).toNatClampNeg) + 2) (nI k) ∧ ∀ M22 : jM, M22 = upM M19 (((M13 4 9).toNatClampNeg) + 2) k r18 → ((M22 4 9).toNatClampNeg) ≠ 0 ∧ cFm P ((M22 4 9).toNatClampNeg) = true ∧ jin P (((M22 4 9).toNatClampNeg) + 2) (nI k) ∧ ((M22 (((M22 4 9).toNatClampNeg) + 2) k) = (-1) → (Q 0 M22)) ∧ (¬ (M22 (((M22 4 9).toNatClampNeg) + 2) k) = (-1) → (w_X10_needs P 44 M22 (fun r27 M28 => (¬ r27 = 0 → (((M28 4 9).toNatClampNeg) ≠ 0 ∧ cFm P ((M28 4 9).toNatClampNeg) = true ∧ w_X7_target P (nI k) M28 (fun r33 M34 => jin P (((M28 4 9).toNatClampNeg) + 3) (nI k) ∧ ∀ M37 : jM, M37 = upM M34 (((M28 4 9).toNatClampNeg) + 3) k r33 → ((M37 4 9).toNatClampNeg) ≠ 0 ∧ cFm P ((M37 4 9).toNatClampNeg) = true ∧ jin P (((M37 4 9).toNatClampNeg) + 3) (nI k) ∧ ((M37 (((M37 4 9).toNatClampNeg) + 3) k) = (-1) → (Q 0 M37)) ∧ (¬ (M37 (((M37 4 9).toNatClampNeg) + 3) k) = (-1) → (Q 1 M37))))) ∧ (r27 = 0 → (Q 0 M28)))))))) ∧ (r12 = 0 → (Q 0 M13)))) → w_X7_node P (nI k) M Q := by
      intro P M kk h Q hs hh hK
      unfold w_X7_node
      refine hs.next' hT hi (fun M2 g e3 e10 s => s11_isLetter s.1 hT (br_j (fun _ => ?_) (fun z => absurd hF z)))
      obtain ⟨g2, f3, f10, s2⟩ := s.inc'
      have e9 : (upM M2 3 2 (M2 3 2 + 1)) 4 9 = nI (spF A) := s2.1.spare
      rw [e9, eF, ek]
      refine ⟨by omega, s2.1.fm' (Nat.le_refl _), jF s2.1 1 (by omega) (by omega), ?_⟩
      rintro M11 rfl
      rw [ex, e97]
      have gr : v7 A k (upM M2 3 2 (M2 3 2 + 1)) (upM (upM M2 3 2 (M2 3 2 + 1)) (spF A + 1) k (nI x)) := v7.row (by omega) (by omega) (Nat.le_refl k) _
      have hh' : ∀ q j, q < 64 → (upM (upM M2 3 2 (M2 3 2 + 1)) (spF A + 1) k (nI x)) q j = (upM M2 3 2 (M2 3 2 + 1)) q j := fun q j hq => up_of _ _ _ _ (by omega)
      exact hK _ ((v7.of (g.trans g2)).trans gr (Nat.le_refl k)) (by rw [hh' 3 3 (by omega), f3, e3]) ⟨s2.1.v7 gr, by rw [hh' 3 2 (by omega)]; exact s2.2.1, by rw [hh' 4 3 (by omega)]; exact s2.2.2⟩ (by rw [hh' 4 10 (by omega), f10, e10]; exact hh) (by rw [up_at, if_pos rfl])
    by_cases h62 : chN A (skN A (skN A i + 1)) = 62
    · have hl2 := ch_len h62 (by omega)
      rcases target_jo hT h160 hk (i := skN A (skN A i + 1) + 1) (by omega) with ⟨p, p1, p2, p3⟩ | ⟨i1, y, t1, t2, t3, t4, t5⟩
      · refine Or.inl ⟨p, p1, fun f hf P M B Q h hs hh h12 h7 hq => ref f hf P M B Q h hs hh h7 (fun M' g s a16 a7 a4 => s.takes (v := 62) hT (by omega) (by omega) (by omega) (fun _ M2 g2 s2 => bn_f (by decide) ⟨vf f hf, ?_⟩) (fun z => absurd h62 z)), fun P M kk h Q hs hh h12 hq => cls P M kk h Q hs hh (fun M' g e3 s a10 a1 => s.needs' (v := 62) hT (by omega) (by omega) (fun _ M2 g2 f3 f10 s2 => bn_f (by decide) ?_) (fun z => absurd h62 z))⟩
        · rw [g2.1 7 (by omega), a7]
          refine p2 P M2 _ s2 (fun M3 g3 e => ⟨vy f hf, s12_takesF (p := p) (by rw [up_of _ _ _ _ (by omega)]; exact e) (by omega) (bn_t rfl (hq _ (((g.trans (v12.of (u12.of g2)) (Nat.le_refl k)).trans (v12.of g3) (Nat.le_refl k)).trans (v12.row (by omega) (by omega) _) (Nat.le_refl k)) (by rw [up_of _ _ _ _ (by omega)]; exact e)))⟩)
        · rw [s2.1.spare, ← spF_eq, eF]
          refine ⟨by omega, s2.1.fm' (Nat.le_refl _), p3 P M2 kk _ s2 (fun M3 g3 e => ⟨jF s2.1 2 (by omega) (by omega), ?_⟩)⟩
          rintro M22 rfl
          have r3 : RelC P (upM M3 (spF A + 2) k (-1)) A := (s2.1.u7 g3).v7 (v7.row (k := k) (by omega) (by omega) (Nat.le_refl k) _)
          rw [r3.spare, ← spF_eq, eF]
          refine ⟨by omega, r3.fm' (Nat.le_refl _), jF r3 2 (by omega) (by omega), br_t (by rw [up_at, if_pos rfl]) (hq _ (((g.trans (v7.of g2) (Nat.le_refl k)).trans (v7.of g3) (Nat.le_refl k)).trans (v7.row (by omega) (by omega) (Nat.le_refl k) _) (Nat.le_refl k)) (by rw [up_of _ _ _ _ (by omega)]; exact e))⟩
      · -- behind the first target
        obtain ⟨n1, n2, n3⟩ := skN_le t2
        have ref2 : ∀ (f : Nat), f ≤ 6 → ∀ (P : jP) (M : jM) (B Q : jM → Prop) (h : Nat), S12 M A 0 i 0 → M 1 16 = nI h → h < 12 → M 7 f = nI k → (∀ M', v12 f k (k + 1) M M' → S12 M' A 0 i1 0 → M' 1 16 = nI (hiT h y) → M' 7 f = nI k → M' 4 (12 * f + k) = nI x → M' 5 (12 * f + k) = nI y → w_X12_takes P 44 M' (fun r36 M37 => (¬ r36 = 0 → (vp_in (nI f) (7) ∧ w_X12_target P (M37 7 f) M37 (fun r41 M42 => vp_in (nI (12 * f + k)) (84) ∧ (((upM M42 6 (12 * f + k) r41) 1 6) = (-1) → B (upM M42 6 (12 * f + k) r41)) ∧ (¬ ((upM M42 6 (12 * f + k) r41) 1 6) = (-1) → Q (upM M42 6 (12 * f + k) r41))))) ∧ (r36 = 0 → (Q M37)))) → nd12 P (nI f) B Q M := by
          intro f hf P M B Q h hs hh h12 h7 hK
          refine ref f hf P M B Q h hs hh h7 (fun M' g s a16 a7 a4 => s.takes (v := 62) hT (by omega) (by omega) (by omega) (fun _ M2 g2 s2 => bn_f (by decide) ⟨vf f hf, ?_⟩) (fun z => absurd h62 z))
          rw [g2.1 7 (by omega), a7]
          refine t4 P M2 h _ s2 (by rw [g2.2 16 (by omega) (by omega) (by omega)]; exact a16) h12 (fun M3 g3 s3 b16 => ⟨vy f hf, ?_⟩)
          have gr : v12 f k (k + 1) M3 (upM M3 5 (12 * f + k) (nI y)) := v12.row (by omega) (by omega) _
          refine hK _ (((g.trans (v12.of (u12.of g2)) (Nat.le_refl k)).trans (v12.of g3) (Nat.le_refl k)).trans gr (Nat.le_refl k)) (s3.v12 gr (fun j _ _ => up_of _ _ _ _ (by omega))) (by rw [up_of _ _ _ _ (by omega)]; exact b16) ?_ ?_ (by rw [up_at, if_pos rfl])
          · rw [up_of _ _ _ _ (by omega), g3.1 7 (by omega), g2.1 7 (by omega)]; exact a7
          · rw [up_of _ _ _ _ (by omega), g3.1 4 (by omega), g2.1 4 (by omega)]; exact a4
        have cls2 : ∀ (P : jP) (M : jM) (kk h : Nat) (Q : Int32 → jM → Prop), S7 P M A i kk → M 4 10 = nI h → h < 12 → (∀ M', v7 A k M M' → M' 3 3 = M 3 3 → S7 P M' A i1 kk → M' 4 10 = nI (hiT h y) → M' (spF A + 1) k = nI x → M' (spF A + 2) k = tconv (nI y) → w_X10_needs P 44 M' (fun r27 M28 => (¬ r27 = 0 → (((M28 4 9).toNatClampNeg) ≠ 0 ∧ cFm P ((M28 4 9).toNatClampNeg) = true ∧ w_X7_target P (nI k) M28 (fun r33 M34 => jin P (((M28 4 9).toNatClampNeg) + 3) (nI k) ∧ ∀ M37 : jM, M37 = upM M34 (((M28 4 9).toNatClampNeg) + 3) k r33 → ((M37 4 9).toNatClampNeg) ≠ 0 ∧ cFm P ((M37 4 9).toNatClampNeg) = true ∧ jin P (((M37 4 9).toNatClampNeg) + 3) (nI k) ∧ ((M37 (((M37 4 9).toNatClampNeg) + 3) k) = (-1) → (Q 0 M37)) ∧ (¬ (M37 (((M37 4 9).toNatClampNeg) + 3) k) = (-1) → (Q 1 M37))))) ∧ (r27 = 0 → (Q 0 M28)))) → w_X7_node P (nI k) M Q := by
          intro P M kk h Q hs hh h12 hK
          refine cls P M kk h Q hs hh (fun M' g e3 s a10 a1 => s.needs' (v := 62) hT (by omega) (by omega) (fun _ M2 g2 f3 f10 s2 => bn_f (by decide) ?_) (fun z => absurd h62 z))
          rw [s2.1.spare, ← spF_eq, eF]
          refine ⟨by omega, s2.1.fm' (Nat.le_refl _), t5 P M2 kk h _ s2 (f10.trans a10) h12 (fun M3 g3 b3 s3 b10 => ⟨jF s2.1 2 (by omega) (by omega), ?_⟩)⟩
          rintro M22 rfl
          have gr : v7 A k M3 (upM M3 (spF A + 2) k (tconv (nI y))) := v7.row (by omega) (by omega) (Nat.le_refl k) _
          have hh' : ∀ q j, q < 64 → (upM M3 (spF A + 2) k (tconv (nI y))) q j = M3 q j := fun q j hq => up_of _ _ _ _ (by omega)
          have s4 : S7 P (upM M3 (spF A + 2) k (tconv (nI y))) A i1 kk := ⟨s3.1.v7 gr, by rw [hh' 3 2 (by omega)]; exact s3.2.1, by rw [hh' 4 3 (by omega)]; exact s3.2.2⟩
          rw [s4.1.spare, ← spF_eq, eF]
          refine ⟨by omega, s4.1.fm' (Nat.le_refl _), jF s4.1 2 (by omega) (by omega), br_f (by rw [up_at, if_pos rfl]; exact tconv_ne t3) (hK _ (((g.trans (v7.of g2) (Nat.le_refl k)).trans (v7.of g3) (Nat.le_refl k)).trans gr (Nat.le_refl k)) (by rw [hh' 3 3 (by omega), b3, f3, e3]) s4 (by rw [hh' 4 10 (by omega)]; exact b10) ?_ (by rw [up_at, if_pos rfl]))⟩
          rw [up_of _ _ _ _ (by omega), g3.1 _ (by omega) (by omega), g2.1 _ (by omega) (by omega)]
          exact a1
        by_cases h44 : chN A (skN A i1) = 44
        · have hl3 := ch_len h44 (by omega)
          rcases target_jo hT h160 hk (i := skN A i1 + 1) (by omega) with ⟨p, p1, p2, p3⟩ | ⟨i2, z, u1, u2, u3, u4, u5⟩
          · refine Or.inl ⟨p, p1, fun f hf P M B Q h hs hh h12 h7 hq => ref2 f hf P M B Q h hs hh h12 h7 (fun M' g s a16 a7 a4 a5 => s.takes (v := 44) hT t2 (by omega) (by omega) (fun _ M2 g2 s2 => bn_f (by decide) ⟨vf f hf, ?_⟩) (fun z => absurd h44 z)), fun P M kk h Q hs hh h12 hq => cls2 P M kk h Q hs hh h12 (fun M' g e3 s a10 a1 a2 => s.needs' (v := 44) hT t2 (by omega) (fun _ M2 g2 f3 f10 s2 => bn_f (by decide) ?_) (fun z => absurd h44 z))⟩
            · rw [g2.1 7 (by omega), a7]
              refine p2 P M2 _ s2 (fun M3 g3 e => ⟨vy f hf, ?_⟩)
              have e' : (upM M3 6 (12 * f + k) 0) 1 6 = nI p := by rw [up_of _ _ _ _ (by omega)]; exact e
              exact bn2 (fun y => absurd (e'.symm.trans y) (nI_ne1 (by omega))) (hq _ (((g.trans (v12.of (u12.of g2)) (Nat.le_refl k)).trans (v12.of g3) (Nat.le_refl k)).trans (v12.row (by omega) (by omega) _) (Nat.le_refl k)) e')
            · rw [s2.1.spare, ← spF_eq, eF]
              refine ⟨by omega, s2.1.fm' (Nat.le_refl _), p3 P M2 kk _ s2 (fun M3 g3 e => ⟨jF s2.1 3 (by omega) (by omega), ?_⟩)⟩
              rintro M37 rfl
              have r3 : RelC P (upM M3 (spF A + 3) k (-1)) A := (s2.1.u7 g3).v7 (v7.row (k := k) (by omega) (by omega) (Nat.le_refl k) _)
              rw [r3.spare, ← spF_eq, eF]
              exact ⟨by omega, r3.fm' (Nat.le_refl _), jF r3 3 (by omega) (by omega), br_t (by rw [up_at, if_pos rfl]) (hq _ (((g.trans (v7.of g2) (Nat.le_refl k)).trans (v7.of g3) (Nat.le_refl k)).trans (v7.row (by omega) (by omega) (Nat.le_refl k) _) (Nat.le_refl k)) (by rw [up_of _ _ _ _ (by omega)]; exact e))⟩
          · refine Or.inr ⟨i2, x, y, z, by omega, u2, hx, t3, u3, fun f hf P M B Q h hs hh h12 h7 hq => ref2 f hf P M B Q h hs hh h12 h7 (fun M' g s a16 a7 a4 a5 => s.takes (v := 44) hT t2 (by omega) (by omega) (fun _ M2 g2 s2 => bn_f (by decide) ⟨vf f hf, ?_⟩) (fun z => absurd h44 z)), fun P M kk h Q hs hh h12 hq => cls2 P M kk h Q hs hh h12 (fun M' g e3 s a10 a1 a2 => s.needs' (v := 44) hT t2 (by omega) (fun _ M2 g2 f3 f10 s2 => bn_f (by decide) ?_) (fun z => absurd h44 z))⟩
            · rw [g2.1 7 (by omega), a7]
              refine u4 P M2 _ _ s2 (by rw [g2.2 16 (by omega) (by omega) (by omega)]; exact a16) (hiT_lt h12) (fun M3 g3 s3 b16 => ⟨vy f hf, ?_⟩)
              have gr : v12 f k (k + 1) M3 (upM M3 6 (12 * f + k) (nI z)) := v12.row (by omega) (by omega) _
              have s4 : S12 (upM M3 6 (12 * f + k) (nI z)) A 0 i2 0 := s3.v12 gr (fun j _ _ => up_of _ _ _ _ (by omega))
              refine bn3 s4.2.2.1 (hq _ (((g.trans (v12.of (u12.of g2)) (Nat.le_refl k)).trans (v12.of g3) (Nat.le_refl k)).trans gr (Nat.le_refl k)) s4 (by rw [up_of _ _ _ _ (by omega)]; exact b16) ?_ ?_ ?_ (by rw [up_at, if_pos rfl]))
              · rw [up_of _ _ _ _ (by omega), g3.1 7 (by omega), g2.1 7 (by omega)]; exact a7
              · rw [up_of _ _ _ _ (by omega), g3.1 4 (by omega), g2.1 4 (by omega)]; exact a4
              · rw [up_of _ _ _ _ (by omega), g3.1 5 (by omega), g2.1 5 (by omega)]; exact a5
            · rw [s2.1.spare, ← spF_eq, eF]
              refine ⟨by omega, s2.1.fm' (Nat.le_refl _), u5 P M2 kk _ _ s2 (f10.trans a10) (hiT_lt h12) (fun M3 g3 b3 s3 b10 => ⟨jF s2.1 3 (by omega) (by omega), ?_⟩)⟩
              rintro M37 rfl
              have gr : v7 A k M3 (upM M3 (spF A + 3) k (tconv (nI z))) := v7.row (by omega) (by omega) (Nat.le_refl k) _
              have hh' : ∀ q j, q < 64 → (upM M3 (spF A + 3) k (tconv (nI z))) q j = M3 q j := fun q j hq => up_of _ _ _ _ (by omega)
              have s4 : S7 P (upM M3 (spF A + 3) k (tconv (nI z))) A i2 kk := ⟨s3.1.v7 gr, by rw [hh' 3 2 (by omega)]; exact s3.2.1, by rw [hh' 4 3 (by omega)]; exact s3.2.2⟩
              rw [s4.1.spare, ← spF_eq, eF]
              refine ⟨by omega, s4.1.fm' (Nat.le_refl _), jF s4.1 3 (by omega) (by omega), br_f (by rw [up_at, if_pos rfl]; exact tconv_ne u3) (hq _ (((g.trans (v7.of g2) (Nat.le_refl k)).trans (v7.of g3) (Nat.le_refl k)).trans gr (Nat.le_refl k)) (by rw [hh' 3 3 (by omega), b3, f3, e3]) s4 (by rw [hh' 4 10 (by omega)]; exact b10) ?_ ?_ (by rw [up_at, if_pos rfl]))⟩
              · rw [up_of _ _ _ _ (by omega), g3.1 _ (by omega) (by omega), g2.1 _ (by omega) (by omega)]; exact a1
              · rw [up_of _ _ _ _ (by omega), g3.1 _ (by omega) (by omega), g2.1 _ (by omega) (by omega)]; exact a2
        · refine Or.inl ⟨skN A i1, n2, fun f hf P M B Q h hs hh h12 h7 hq => ref2 f hf P M B Q h hs hh h12 h7 (fun M' g s a16 a7 a4 a5 => s.takes (v := 44) hT t2 (by omega) (by omega) (fun z => absurd z h44) (fun _ M2 g2 e => bn_t rfl (hq M2 (g.trans (v12.of (u12.of g2)) (Nat.le_refl k)) e))), fun P M kk h Q hs hh h12 hq => cls2 P M kk h Q hs hh h12 (fun M' g e3 s a10 a1 a2 => s.needs' (v := 44) hT t2 (by omega) (fun z => absurd z h44) (fun _ M2 g2 e => bn_t rfl (hq M2 (g.trans (v7.of g2) (Nat.le_refl k)) e)))⟩
    · refine Or.inl ⟨skN A (skN A i + 1), m2, fun f hf P M B Q h hs hh h12 h7 hq => ref f hf P M B Q h hs hh h7 (fun M' g s a16 a7 a4 => s.takes (v := 62) hT (by omega) (by omega) (by omega) (fun z => absurd z h62) (fun _ M2 g2 e => bn_t rfl (hq M2 (g.trans (v12.of (u12.of g2)) (Nat.le_refl k)) e))), fun P M kk h Q hs hh h12 hq => cls P M kk h Q hs hh (fun M' g e3 s a10 a1 => s.needs' (v := 62) hT (by omega) (by omega) (fun z => absurd z h62) (fun _ M2 g2 e => bn_t rfl (hq M2 (g.trans (v7.of g2) (Nat.le_refl k)) e)))⟩
  · refine Or.inl ⟨skN A i, k2, fun f hf P M B Q h hs hh h12 h7 hq => ?_, fun P M kk h Q hs hh h12 hq => ?_⟩
    · unfold nd12
      exact hs.look hT hi (fun M17 g s => s12_isFact s.1 hT (br_j (fun z => absurd z hF) (fun _ => s.fails (fun M2 g2 e => hq M2 (v12.of (u12.of (g.trans g2))) e))))
    · unfold w_X7_node
      exact hs.next' hT hi (fun M2 g e3 e10 s => s11_isLetter s.1 hT (br_j (fun z => absurd z hF) (fun _ => s.miss' (fun M3 g3 e => ⟨jb_0, hq M3 (v7.of (g.trans g3)) e⟩))))
