/-! spoiled: both sides -/
theorem top_nodes {A : aS} {f c nm : Nat} (h4 : ∀ t, t < nm → (t < nxF A f c t ∧ nxF A f c t < nm) ∨ (99 ≤ nxF A f c t ∧ nxF A f c t ≤ 105)) (hm : nm ≤ 12) : ∀ k t l b, l < t → 2 ^ l ≤ b → b < 2 ^ (l + 1) → (t < nm ∨ 99 ≤ t) → l < 12 → 2 ^ (lastF A f c k l t) ≤ nodesF A f c k b t ∧ nodesF A f c k b t < 2 ^ (lastF A f c k l t + 1) ∧ lastF A f c k l t < 12 := by
  intro k
  induction k with
  | zero => intro t l b _ h1 h2 _ h3; exact ⟨h1, h2, h3⟩
  | succ k ih =>
    intro t l b hl h1 h2 ht h3
    unfold lastF nodesF
    by_cases h12 : t < 12
    · rw [if_pos h12, if_pos h12]
      have hp : b < 2 ^ (t + 1) := Nat.lt_of_lt_of_le h2 (Nat.pow_le_pow_right (by omega) (by omega))
      have hx := h4 t (by omega)
      refine ih _ _ _ (by omega) Nat.right_le_or (Nat.or_lt_two_pow hp (Nat.pow_lt_pow_right (by omega) (by omega))) (by omega) h12
    · rw [if_neg h12, if_neg h12]
      exact ⟨h1, h2, h3⟩
theorem nodes_log {A : aS} (h : wfForms A) {f c : Nat} (hf : f < A.1 4) : nodesF A f c 12 0 0 < 4096 ∧ nodesF A f c 12 0 0 ≠ 0 ∧ Nat.log2 (nodesF A f c 12 0 0) = lastF A f c 12 0 0 ∧ lastF A f c 12 0 0 < 12 := by
  obtain ⟨nm, h1, h2, h3, h4⟩ := form_ok h hf
  have hx := (h4 c 0 (by omega)).2.1
  have key := top_nodes (A := A) (f := f) (c := c) (fun t ht => (h4 c t ht).2.1) h2 11 (nxF A f c 0) 0 1 (by omega) (by decide) (by decide) (by omega) (by omega)
  have e1 : nodesF A f c 12 0 0 = nodesF A f c 11 1 (nxF A f c 0) := by
    show (if 0 < 12 then nodesF A f c 11 (0 ||| 2 ^ 0) (nxF A f c 0) else 0) = _
    rw [if_pos (by omega)]
    rfl
  have e2 : lastF A f c 12 0 0 = lastF A f c 11 0 (nxF A f c 0) := by
    show (if 0 < 12 then lastF A f c 11 0 (nxF A f c 0) else 0) = _
    rw [if_pos (by omega)]
  rw [e1, e2]
  obtain ⟨k1, k2, k3⟩ := key
  have hb : 2 ^ (lastF A f c 11 0 (nxF A f c 0) + 1) ≤ 2 ^ 12 := Nat.pow_le_pow_right (by omega) (by omega)
  have hp := Nat.two_pow_pos (lastF A f c 11 0 (nxF A f c 0))
  refine ⟨by omega, by omega, ?_, k3⟩
  exact (Nat.log2_eq_iff (by omega)).mpr ⟨k1, k2⟩
def spoilN (A : aS) (f l : Nat) : Nat → Nat
  | 0 => 0
  | c + 1 => spoilN A f l c ||| (if leadV A f c = sdA A l c then 0 else 2 ^ lastF A f c 12 0 0)
def spoiledS (A : aS) (a b : Int32) : Int32 := if okF A a ∧ okL A b then nI (spoilN A a.toNatClampNeg b.toNatClampNeg (2 ^ A.1 0)) else -1
theorem s12_spoiled {P : jP} {M : jM} {A : aS} (h : RelM M A) {a b : Int32} {Q : Int32 → jM → Prop} (hq : ∀ M', RelM M' A → Q (spoiledS A a b) M') : w_X12_spoiled P a b M Q := by
  unfold w_X12_spoiled
  have h0 := h.thr 0
  generalize upM M 1 0 0 = M0 at h0 ⊢
  have hq := hq M0 h0
  refine s12_isForm h0 (br_i (fun hn => ?_) (fun hf => s12_isLaw h0 (br_j (fun hl => ?_) (fun hn => ?_))))
  · rw [spoiledS, if_neg (fun z => hn z.1)] at hq; exact hq
  · rw [spoiledS, if_pos ⟨hf, hl⟩] at hq
    obtain ⟨f, hf1, hf2, rfl⟩ := okF_of h0 hf
    obtain ⟨l, hl1, hl2, rfl⟩ := okL_of h0 hl
    rw [nI_clamp (show f < 2 ^ 31 by omega), nI_clamp (show l < 2 ^ 31 by omega)] at hq
    have hC := h0.C512
    rw [h0.cases]
    intro R hR
    refine lp_up (R := fun c => R (nI (spoilN A f l c)) (nI c)) (2 ^ A.1 0) (hR _ _ (br_t (nI_le (Nat.le_refl _) (by omega)) hq)) ?_ 0 (Nat.zero_le _)
    intro c hc ih
    have hlog := nodes_log h0.1.2.2.2.1 (c := c) hf1
    have hnz := nlz_small _ hlog.1 hlog.2.1
    refine hR _ _ (br_f (nI_ge hc (by omega)) (s12_comesTo h0 hf1 (by omega) (s_nlz hnz.1 (s12_leadsOn h0 hf1 (by omega) (s12_saidOn h0 hl2 (by omega) ?_)))))
    intro R78 h78
    have step : spoilN A f l (c + 1) = spoilN A f l c ||| (if leadV A f c = sdA A l c then 0 else 2 ^ lastF A f c 12 0 0) := rfl
    refine br_c (fun z => h78 _ ?_) (fun z => h78 _ ?_)
    · rw [step, if_pos z] at ih
      rw [show (0 : Int32) = nI 0 from rfl, nI_or, nI_1]
      exact ih
    · rw [step, if_neg z] at ih
      rw [hnz.2, hlog.2.2.1, shl1 (by omega), nI_or, nI_1]
      exact ih
  · rw [spoiledS, if_neg (fun z => hn z.2)] at hq; exact hq
theorem s11_spoiled {P : jP} {M : jM} {A : aS} (h : RelC P M A) {a b : Int32} {Q : Int32 → Prop} (hq : Q (spoiledS A a b)) : w_X11_spoiled P a b M Q := by
  have hC := h.C512
  unfold w_X11_spoiled
  refine s11_formAt h (fun hn => s11_lawAt h (fun _ => br_t rfl ?_) (fun _ _ _ => br_t rfl ?_)) (fun f hf ef => s11_lawAt h (fun hn => br_f (by omega) ⟨fun z => absurd rfl z, fun _ => ?_⟩) (fun l hl el => br_f (by omega) ⟨fun _ => ?_, fun z => absurd z (by omega)⟩))
  · rw [spoiledS, if_neg (fun z => hn z.1)] at hq; exact hq
  · rw [spoiledS, if_neg (fun z => hn z.1)] at hq; exact hq
  · rw [spoiledS, if_neg (fun z => hn z.2)] at hq; exact hq
  · subst ef el
    have of := okF_mk h.1 hf
    have ol := okL_mk (M := M) h.1 hl
    rw [spoiledS, if_pos ⟨of.1, ol.1⟩, nI_clamp (by omega), nI_clamp (by omega)] at hq
    rw [h.cases]
    intro R hR
    refine lp_up (R := fun c => R (nI (spoilN A f l c)) (nI c)) (2 ^ A.1 0) (hR _ _ (br_t (nI_le (Nat.le_refl _) (by omega)) hq)) ?_ 0 (Nat.zero_le _)
    intro c hc ih
    have hlog := nodes_log h.1.2.2.2.1 (c := c) hf
    refine hR _ _ (br_f (nI_ge hc (by omega)) ⟨h.fm hf, s11_outcomeOn h hf (by omega) ⟨h.lw hl, jin_of (h.ia hl).2.2.1 hc (by omega), ?_⟩⟩)
    intro R72 h72
    have step : spoilN A f l (c + 1) = spoilN A f l c ||| (if leadV A f c = sdA A l c then 0 else 2 ^ lastF A f c 12 0 0) := rfl
    rw [nI_clamp (show c < 2 ^ 31 by omega), h.said hl hc]
    refine br_c (fun z => h72 _ ?_) (fun z => ⟨h.fm hf, s11_lastOn h hf (by omega) (h72 _ ?_)⟩)
    · rw [step, if_pos z, Nat.or_zero] at ih
      rw [nI_1]
      exact ih
    · rw [step, if_neg z] at ih
      rw [shl1 (by omega), nI_or, nI_1]
      exact ih
