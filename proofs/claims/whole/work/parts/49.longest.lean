/-! longest: both sides -/
def miF (A : aS) (f t : Nat) : Nat := (A.2 12 (A.2 4 (12 * f + t)).toNatClampNeg).toNatClampNeg
def pathM (A : aS) (f c : Nat) : Nat → Nat → Nat → Nat
  | 0, m, _ => m
  | k + 1, m, t => if t < 12 then pathM A f c k (m + miF A f t) (nxF A f c t) else m
def sbF (A : aS) (f b j : Nat) : Nat := if b.testBit j = true then miF A f j else 0
abbrev minC (A : aS) (f c : Nat) : Nat := pathM A f c 12 0 0
theorem pathM_big {A : aS} {f c k l t : Nat} (ht : 12 ≤ t) : pathM A f c k l t = l := by
  cases k with
  | zero => rfl
  | succ k => unfold pathM; rw [if_neg (by omega)]
theorem mi_ok {A : aS} (h : wfA A) {f : Nat} (hf : f < A.1 4) {nm : Nat} (hnm : A.2 7 f = nI nm) (hm : nm ≤ 12) {t : Nat} (ht : t < nm) : ∃ x, x < A.1 0 ∧ A.2 4 (12 * f + t) = nI x ∧ A.2 12 x = nI (miF A f t) ∧ miF A f t ≤ 99 := by
  have h6 := h.1
  unfold wfNum at h6
  obtain ⟨nm', h1, h2, h3, h4⟩ := form_ok h.2.2.2.1 hf
  have e : nm = nm' := (nI_eq (by omega) (by omega)).mp (hnm.symm.trans h3)
  subst e
  obtain ⟨⟨x, hx, ex⟩, -⟩ := h4 0 t ht
  obtain ⟨m, m1, m2, m3⟩ := h.2.2.2.2.1.1 x hx
  have e : miF A f t = m := by
    unfold miF
    rw [ex, nI_clamp (by omega), m3, nI_clamp (by omega)]
  exact ⟨x, hx, ex, by rw [e]; exact m3, by omega⟩
theorem pathM_le {A : aS} (h : wfA A) {f c : Nat} (hf : f < A.1 4) {nm : Nat} (hnm : A.2 7 f = nI nm) (hm : nm ≤ 12) (h4 : ∀ t, t < nm → (t < nxF A f c t ∧ nxF A f c t < nm) ∨ (99 ≤ nxF A f c t ∧ nxF A f c t ≤ 105)) : ∀ k m t, (t < nm ∨ 99 ≤ t) → pathM A f c k m t ≤ m + 99 * k := by
  intro k
  induction k with
  | zero => intro m t _; exact Nat.le_refl _
  | succ k ih =>
    intro m t ht
    unfold pathM
    by_cases h12 : t < 12
    · rw [if_pos h12]
      obtain ⟨x, -, -, -, hx⟩ := mi_ok h hf hnm hm (t := t) (by omega)
      have := h4 t (by omega)
      have := ih (m + miF A f t) (nxF A f c t) (by omega)
      omega
    · rw [if_neg h12]; omega
theorem minC_le {A : aS} (h : wfA A) {f c : Nat} (hf : f < A.1 4) : minC A f c ≤ 1188 := by
  obtain ⟨nm, h1, h2, h3, h4⟩ := form_ok h.2.2.2.1 hf
  have := pathM_le h hf h3 h2 (c := c) (fun t ht => (h4 c t ht).2.1) 12 0 0 (Or.inl (by omega))
  show pathM A f c 12 0 0 ≤ 1188
  omega
/-- the minutes of the way are those of the nodes that it comes to -/
theorem path_nodes {A : aS} {f c nm : Nat} (h4 : ∀ t, t < nm → (t < nxF A f c t ∧ nxF A f c t < nm) ∨ (99 ≤ nxF A f c t ∧ nxF A f c t ≤ 105)) (hm : nm ≤ 12) : ∀ k t m b, b < 2 ^ t → (t < nm ∨ 99 ≤ t) → m = sumN (sbF A f b) nm → pathM A f c k m t = sumN (sbF A f (nodesF A f c k b t)) nm := by
  intro k
  induction k with
  | zero => intro t m b _ _ e; exact e
  | succ k ih =>
    intro t m b hb ht e
    unfold pathM nodesF
    by_cases h12 : t < 12
    · rw [if_pos h12, if_pos h12]
      have hx := h4 t (by omega)
      have hor : b ||| 2 ^ t < 2 ^ (t + 1) := Nat.or_lt_two_pow (Nat.lt_trans hb (Nat.pow_lt_pow_right (by omega) (by omega))) (Nat.pow_lt_pow_right (by omega) (by omega))
      refine ih _ _ _ (Nat.lt_of_lt_of_le hor (Nat.pow_le_pow_right (by omega) (by omega))) (by omega) ?_
      have hs := sumN_at (miF A f t) t nm
      rw [if_pos (by omega)] at hs
      rw [e, ← hs, ← sumN_add]
      refine sumN_congr (fun j hj => ?_)
      unfold sbF
      rw [Nat.testBit_or, Nat.testBit_two_pow]
      by_cases ej : j = t
      · subst ej
        rw [Nat.testBit_lt_two_pow hb]
        simp
      · rw [if_neg ej]
        simp [Ne.symm ej]
    · rw [if_neg h12, if_neg h12]
      exact e
theorem minC_nodes {A : aS} (h : wfForms A) {f c nm : Nat} (hf : f < A.1 4) (hnm : A.2 7 f = nI nm) (hm : nm ≤ 12) : minC A f c = sumN (sbF A f (nodesF A f c 12 0 0)) nm := by
  obtain ⟨nm', h1, h2, h3, h4⟩ := form_ok h hf
  have e : nm = nm' := (nI_eq (by omega) (by omega)).mp (hnm.symm.trans h3)
  subst e
  refine path_nodes (fun t ht => (h4 c t ht).2.1) h2 12 0 0 0 (by decide) (Or.inl (by omega)) ?_
  have : ∀ n, sumN (sbF A f 0) n = 0 := by
    intro n
    induction n with
    | zero => rfl
    | succ n ih =>
      show sumN (sbF A f 0) n + sbF A f 0 n = 0
      rw [ih, sbF, if_neg (by simp)]
  exact (this nm).symm
theorem s12_pathM {P : jP} {M : jM} {A : aS} (h : RelM M A) {f c : Nat} (hf : f < A.1 4) (hc : c < 512) {R : Int32 → Int32 → Prop} {Z : Int32 → Prop} (hR : ∀ x8 x9 : Int32, ((12 ≤ x9 → Z x8) ∧ (¬ 12 ≤ x9 → w_X12_factOf P (nI f) x9 M (fun r11 => vp_in r11 (9) ∧ w_X12_factOf P (nI f) x9 M (fun r15 => w_X12_has P (nI c) r15 (fun r18 => w_X12_nextOf P (nI f) x9 r18 M (fun r21 => R (x8 + (M 12 r11.toNatClampNeg)) r21)))))) → R x8 x9) (hZ : Z (nI (minC A f c))) : R 0 0 := by
  have h6 := h.num
  unfold wfNum at h6
  obtain ⟨nm, h1, h2, h3, h4⟩ := form_ok h.1.2.2.2.1 hf
  have key : ∀ k t m, (t < nm ∨ (99 ≤ t ∧ t ≤ 105)) → 12 ≤ t + k → Z (nI (pathM A f c k m t)) → R (nI m) (nI t) := by
    intro k
    induction k with
    | zero =>
      intro t m ht hk hq
      exact hR _ _ (br_t (nI_le (a := 12) (by omega) (by omega)) hq)
    | succ k ih =>
      intro t m ht hk hq
      by_cases h12 : t < 12
      · have htn : t < nm := by omega
        unfold pathM at hq
        rw [if_pos h12] at hq
        obtain ⟨x, hx, ex, e12, -⟩ := mi_ok h.1 hf h3 h2 htn
        have ix := ix12 (l := f) (k := t) (N := 84) (by omega) (by omega)
        refine hR _ _ (br_f (nI_ge (a := t) (b := 12) h12 (by omega)) ⟨ix.1, ?_⟩)
        rw [ix.2, h.node (by omega) (by omega), ex]
        refine ⟨vin (by omega) (by omega), s12_node h hf h3 htn h2 hc ?_⟩
        have := (h4 c t htn).2.1
        rw [nI_clamp (by omega), h.row (by omega), e12, nI_add]
        exact ih _ _ (by omega) (by omega) hq
      · unfold pathM at hq
        rw [if_neg h12] at hq
        exact hR _ _ (br_t (nI_le (a := 12) (by omega) (by omega)) hq)
  exact key 12 0 0 (Or.inl (by omega)) (by omega) hZ
def maxN (g : Nat → Nat) : Nat → Nat
  | 0 => 0
  | n + 1 => max (maxN g n) (g n)
theorem maxN_le {g : Nat → Nat} {b : Nat} (h : ∀ i, g i ≤ b) : ∀ n, maxN g n ≤ b
  | 0 => Nat.zero_le _
  | n + 1 => Nat.max_le.mpr ⟨maxN_le h n, h n⟩
def longestS (A : aS) (a : Int32) : Int32 := if okF A a then nI (maxN (minC A a.toNatClampNeg) (2 ^ A.1 0)) else -1
theorem s12_longest {P : jP} {M : jM} {A : aS} (h : RelM M A) {a : Int32} {Q : Int32 → jM → Prop} (hq : ∀ M', RelM M' A → Q (longestS A a) M') : w_X12_longest P a M Q := by
  unfold w_X12_longest
  have h0 := h.thr 0
  generalize upM M 1 0 0 = M0 at h0 ⊢
  have hq := hq M0 h0
  refine s12_isForm h0 (br_j (fun hf => ?_) (fun hn => ?_))
  · rw [longestS, if_pos hf] at hq
    obtain ⟨f, hf1, hf2, rfl⟩ := okF_of h0 hf
    rw [nI_clamp (show f < 2 ^ 31 by omega)] at hq
    have hC := h0.C512
    rw [h0.cases]
    intro R hR
    refine lp_up (R := fun c => R (nI (maxN (minC A f) c)) (nI c)) (2 ^ A.1 0) (hR _ _ (br_t (nI_le (Nat.le_refl _) (by omega)) hq)) ?_ 0 (Nat.zero_le _)
    intro c hc ih
    refine hR _ _ (br_f (nI_ge hc (by omega)) ?_)
    intro R33 h33
    have m1 := maxN_le (g := minC A f) (fun i => minC_le h0.1 hf1) c
    have m2 := minC_le h0.1 hf1 (c := c)
    refine s12_pathM h0 hf1 (c := c) (by omega) h33 ?_
    rw [maxI (by omega) (by omega), nI_1]
    exact ih
  · rw [longestS, if_neg hn] at hq; exact hq
theorem s11_minutesOn {P : jP} {M : jM} {A : aS} (h : RelC P M A) {f c : Nat} (hf : f < A.1 4) (hc : c < 512) {Q : Int32 → Prop} (hq : Q (nI (minC A f c))) : w_X11_minutesOn P (128 + 4 * f) (nI c) M Q := by
  have h6 := h.num
  unfold wfNum at h6
  obtain ⟨nm, h1, h2, h3, h4⟩ := form_ok h.1.2.2.2.1 hf
  have hlog := nodes_log h.1.2.2.2.1 (c := c) hf
  rw [minC_nodes h.1.2.2.2.1 hf h3 h2] at hq
  unfold w_X11_minutesOn
  refine ⟨h.fm hf, s11_nodesOn h hf hc ?_⟩
  rw [h.fmany hf, h3]
  intro R hR
  refine lp_up (R := fun j => R (nI (sumN (sbF A f (nodesF A f c 12 0 0)) j)) (nI j)) nm (hR _ _ ⟨h.fm hf, br_t (nI_le (Nat.le_refl _) (by omega)) hq⟩) ?_ 0 (Nat.zero_le _)
  intro j hj ih
  refine hR _ _ ⟨h.fm hf, br_f (nI_ge hj (by omega)) ?_⟩
  intro R50 h50
  obtain ⟨x, hx, ex, e12, -⟩ := mi_ok h.1 hf h3 h2 hj
  have step : sumN (sbF A f (nodesF A f c 12 0 0)) (j + 1) = sumN (sbF A f (nodesF A f c 12 0 0)) j + sbF A f (nodesF A f c 12 0 0) j := rfl
  rw [bit1_0 (by omega) (by omega)]
  refine br_c (fun z => h50 _ ?_) (fun z => ⟨h.fm hf, jin_of (h.fia hf (by omega) (by omega)) (by omega) (by omega), ?_⟩)
  · rw [step, sbF, if_neg z, Nat.add_zero] at ih
    rw [nI_1]; exact ih
  · have k1 := h.fcell (r := 1) (t := j) hf (by omega) (Or.inr ⟨by omega, by rw [h3, nI_clamp (by omega)]; exact hj⟩)
    rw [if_neg (by omega), if_pos rfl] at k1
    have e27 : M 27 x = A.2 12 x := h.2.2.1 27 x hx
    rw [nI_clamp (show j < 2 ^ 31 by omega), k1, ex, nI_clamp (show x < 2 ^ 31 by omega), e27, e12]
    refine ⟨vin (by rw [h.2.1.1]; exact hx) (by rw [h.2.1.1]; omega), ?_⟩
    rintro y rfl
    refine h50 _ ?_
    rw [step, sbF, if_pos (Classical.byContradiction z)] at ih
    rw [nI_add, nI_1]; exact ih
theorem s11_longest {P : jP} {M : jM} {A : aS} (h : RelC P M A) {a : Int32} {Q : Int32 → Prop} (hq : Q (longestS A a)) : w_X11_longest P a M Q := by
  have hC := h.C512
  unfold w_X11_longest
  refine s11_formAt h (fun hn => ⟨fun z => absurd rfl z, fun _ => ?_⟩) (fun f hf ef => ⟨fun _ => ?_, fun z => absurd z (by omega)⟩)
  · rw [longestS, if_neg hn] at hq; exact hq
  · subst ef
    have of := okF_mk h.1 hf
    rw [longestS, if_pos of.1, nI_clamp (by omega)] at hq
    rw [h.cases]
    intro R hR
    refine lp_up (R := fun c => R (nI (maxN (minC A f) c)) (nI c)) (2 ^ A.1 0) (hR _ _ (br_t (nI_le (Nat.le_refl _) (by omega)) hq)) ?_ 0 (Nat.zero_le _)
    intro c hc ih
    have m1 := maxN_le (g := minC A f) (fun i => minC_le h.1 hf) c
    have m2 := minC_le h.1 hf (c := c)
    refine hR _ _ (br_f (nI_ge hc (by omega)) (s11_minutesOn h hf (by omega) ?_))
    rw [maxI (by omega) (by omega), nI_1]
    exact ih
