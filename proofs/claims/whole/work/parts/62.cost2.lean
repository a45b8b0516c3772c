/-! cost: the two sides -/
def costS (A : aS) (a : Int32) : Int64 := if okF A a then costT A a.toNatClampNeg 0 0 0 else -1
theorem s12_costFrom {P : jP} {M : jM} {A : aS} (h : RelM M A) {f nm : Nat} (hf : f < A.1 4) (h2 : nm ≤ 12) (h3 : A.2 7 f = nI nm) (h4 : ∀ c t, t < nm → (∃ x : Nat, x < A.1 0 ∧ A.2 4 (12 * f + t) = nI x) ∧ ((t < nxF A f c t ∧ nxF A f c t < nm) ∨ (99 ≤ nxF A f c t ∧ nxF A f c t ≤ 105)) ∧ A.2 5 (12 * f + t) = nI (A.2 5 (12 * f + t)).toNatClampNeg ∧ A.2 6 (12 * f + t) = nI (A.2 6 (12 * f + t)).toNatClampNeg) : ∀ d t kn so (Q : Int64 → Prop), (t < nm ∨ (99 ≤ t ∧ t ≤ 105)) → 13 ≤ t + d → 1 ≤ d → kn < 512 → so < 512 → (∀ i, so.testBit i = true → kn.testBit i = true) → Q (costT A f t kn so) → wr_X12_costFrom d P (nI f) (nI t) (nI kn) (nI so) M Q := by
  have h6 := h.num
  unfold wfNum at h6
  have hp := h.1.2.2.2.2.2.1
  intro d
  induction d with
  | zero => intro t kn so Q _ _ hd; omega
  | succ d ih =>
    intro t kn so Q ht hd _ hkn hso hsub hq
    unfold wr_X12_costFrom wb_X12_costFrom
    refine br_c (fun z => ?_) (fun z => ?_)
    · have htn : t < nm := by
        rcases ht with q | q
        · exact q
        · have := (nI_ltI (a := t) (b := 12) (by omega) (by omega)).mp z
          omega
      obtain ⟨⟨x, hx, ex⟩, -, e5, e6⟩ := h4 0 t htn
      obtain ⟨x', hx', ex', e12, -⟩ := mi_ok h.1 hf h3 h2 htn
      have exx : x = x' := (nI_eq (by omega) (by omega)).mp (ex.symm.trans ex')
      subst exx
      have ix := ix12 (l := f) (k := t) (N := 84) (by omega) (by omega)
      have hyes : (t < (A.2 5 (12 * f + t)).toNatClampNeg ∧ (A.2 5 (12 * f + t)).toNatClampNeg < nm) ∨ (99 ≤ (A.2 5 (12 * f + t)).toNatClampNeg ∧ (A.2 5 (12 * f + t)).toNatClampNeg ≤ 105) := by
        have := (h4 (2 ^ x) t htn).2.1
        unfold nxF at this
        rw [ex, nI_clamp (by omega), Nat.testBit_two_pow, decide_eq_true rfl, if_pos rfl] at this
        exact this
      have hno : (t < (A.2 6 (12 * f + t)).toNatClampNeg ∧ (A.2 6 (12 * f + t)).toNatClampNeg < nm) ∨ (99 ≤ (A.2 6 (12 * f + t)).toNatClampNeg ∧ (A.2 6 (12 * f + t)).toNatClampNeg ≤ 105) := by
        have := (h4 0 t htn).2.1
        unfold nxF at this
        rw [Nat.zero_testBit, if_neg (by decide)] at this
        exact this
      have hst : ∀ c, restC A f c t = miF A f t + restC A f c (if c.testBit x = true then (A.2 5 (12 * f + t)).toNatClampNeg else (A.2 6 (12 * f + t)).toNatClampNeg) := by
        intro c
        have e := restC_step (A := A) (f := f) (c := c) (fun t ht => (h4 c t ht).2.1) htn h2
        have en : nxF A f c t = if c.testBit x = true then (A.2 5 (12 * f + t)).toNatClampNeg else (A.2 6 (12 * f + t)).toNatClampNeg := by
          unfold nxF
          rw [ex, nI_clamp (by omega)]
        rw [e, en]
      have hmi : miF A f t ≤ 99 := by
        obtain ⟨_, _, _, _, q⟩ := mi_ok h.1 hf h3 h2 htn
        exact q
      unfold w_X12_factOf
      refine ⟨ix.1, ?_⟩
      rw [ix.2, h.node (by omega) (by omega), ex]
      refine s12_shareOf h hkn hso ⟨vin (by omega) (by omega), s12_has (by omega) (by omega) ?_⟩
      rw [nI_clamp (show x < 2 ^ 31 by omega), h.row (by omega), e12, nI_l (show miF A f t < 2 ^ 31 by omega)]
      unfold w_X12_nextOf
      rw [ix.2, h.node (k := 5) (by omega) (by omega), h.node (k := 6) (by omega) (by omega)]
      have hkx : kn ||| 2 ^ x < 512 := Nat.or_lt_two_pow (n := 9) hkn (Nat.pow_lt_pow_right (by omega) (by omega))
      have hsx : so ||| 2 ^ x < 512 := Nat.or_lt_two_pow (n := 9) hso (Nat.pow_lt_pow_right (by omega) (by omega))
      refine br_i (fun hk => ?_) (fun hk => ?_)
      · have hs : ¬ so.testBit x = true := fun q => hk (hsub x q)
        rw [costT_two hp hx hk hs hst] at hq
        rw [shl1 (by omega), nI_or, nI_or]
        refine br_f (by decide) ⟨ix.1, ?_⟩
        rw [e5]
        refine ih _ _ _ _ (hyes.imp And.right id) (by omega) (by omega) hkx hsx (fun i hi => ?_) ?_
        · rcases or_bit.mp hi with q | q
          · exact or_bit.mpr (Or.inl (hsub i q))
          · exact or_bit.mpr (Or.inr q)
        · refine br_t rfl ⟨ix.1, ?_⟩
          rw [e6]
          exact ih _ _ _ _ (hno.imp And.right id) (by omega) (by omega) hkx hso (fun i hi => or_bit.mpr (Or.inl (hsub i hi))) hq
      · rw [costT_one hp hx hk hst] at hq
        refine s12_has (by omega) (by omega) (br_i (fun hs => ⟨ix.1, ?_⟩) (fun hs => ⟨ix.1, ?_⟩))
        · rw [if_neg hs] at hq
          rw [e6]
          exact ih _ _ _ _ (hno.imp And.right id) (by omega) (by omega) hkn hso hsub hq
        · rw [if_pos hs] at hq
          rw [e5]
          exact ih _ _ _ _ (hyes.imp And.right id) (by omega) (by omega) hkn hso hsub hq
    · have ht12 : 12 ≤ t := by
        rcases Nat.lt_or_ge t 12 with q | q
        · exact absurd ((nI_ltI (a := t) (b := 12) (by omega) (by omega)).mpr q) z
        · exact q
      rw [costT_end ht12] at hq
      exact hq
theorem s12_cost {P : jP} {M : jM} {A : aS} (h : RelM M A) {a : Int32} {Q : Int64 → jM → Prop} (hq : ∀ M', RelM M' A → Q (costS A a) M') : w_X12_cost P a M Q := by
  unfold w_X12_cost
  have h0 := h.thr 0
  generalize upM M 1 0 0 = M0 at h0 ⊢
  have hq := hq M0 h0
  refine s12_isForm h0 (br_i (fun hn => ?_) (fun hf => ?_))
  · rw [costS, if_neg hn] at hq; exact hq
  · rw [costS, if_pos hf] at hq
    obtain ⟨f, hf1, hf2, rfl⟩ := okF_of h0 hf
    rw [nI_clamp (show f < 2 ^ 31 by omega)] at hq
    obtain ⟨nm, h1, h2, h3, h4⟩ := form_ok h0.1.2.2.2.1 hf1
    exact s12_costFrom h0 hf1 h2 h3 (fun c t ht => ⟨(h4 c t ht).1, (h4 c t ht).2.1, (h4 c t ht).2.2.1, (h4 c t ht).2.2.2.1⟩) 20 0 0 0 _ (Or.inl (by omega)) (by omega) (by omega) (by omega) (by omega) (fun i hi => by rw [Nat.zero_testBit] at hi; exact absurd hi (by decide)) hq
theorem s11_cost {P : jP} {M : jM} {A : aS} (h : RelC P M A) {a : Int32} {Q : Int64 → Prop} (hq : Q (costS A a)) : w_X11_cost P a M Q := by
  have hC := h.C512
  have hp := Nat.two_pow_pos (A.1 0)
  unfold w_X11_cost
  refine s11_formAt h (fun hn => ⟨fun z => absurd rfl z, fun _ => ?_⟩) (fun f hf ef => ⟨fun _ => ?_, fun z => absurd z (by omega)⟩)
  · rw [costS, if_neg hn] at hq; exact hq
  · subst ef
    have of := okF_mk h.1 hf
    rw [costS, if_pos of.1, nI_clamp (by omega)] at hq
    have e0 : costT A f 0 0 0 = sumL (fun c => shrC A c * lN (minC A f c)) (2 ^ A.1 0) := by
      unfold costT
      refine sumL_congr (fun c _ => ?_)
      rw [if_pos (agrB_iff.mpr (fun i _ hi => by rw [Nat.zero_testBit] at hi; exact absurd hi (by decide)))]
    rw [e0] at hq
    rw [h.cases, h.full]
    intro R hR
    refine lp_up (R := fun c => R (sumL (fun c => shrC A c * lN (minC A f c)) c) (nI c)) (2 ^ A.1 0) (hR _ _ (br_t (nI_le (Nat.le_refl _) (by omega)) hq)) ?_ 0 (Nat.zero_le _)
    intro c hc ih
    have m2 := minC_le h.1 hf (c := c)
    refine hR _ _ (br_f (nI_ge hc (by omega)) (s11_shareOfAll h (by omega) (by omega) (s11_minutesOn h hf (by omega) ?_)))
    rw [nI_l (show minC A f c < 2 ^ 31 by omega), nI_1]
    exact ih
