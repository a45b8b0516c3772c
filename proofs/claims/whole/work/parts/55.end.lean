/-! end: both sides -/
def endB (A : aS) (n : Nat) : aS := (setN A.1 1 n, upM A.2 1 4 (nI n))
abbrev okZ (A : aS) (a : Int32) : Prop := ¬ a < 0 ∧ a ≤ nI (A.1 1)
def endA (A : aS) (a : Int32) : aS := if okZ A a then endB A a.toNatClampNeg else A
def endS (A : aS) (a : Int32) : Int32 := bi (okZ A a)
theorem okZ_of {A : aS} (h : wfA A) {a : Int32} (z : okZ A a) : ∃ x, x ≤ A.1 1 ∧ a = nI x := by
  have h6 := h.1
  unfold wfNum at h6
  obtain ⟨x, -, x2, x3⟩ := in_pos (lo := 0) (hi := A.1 1) (by omega) z.1 (Int32.not_lt.mpr z.2) (by omega)
  exact ⟨x, x2, x3⟩
theorem endB_wf {A : aS} (h : wfA A) {n : Nat} (hn : n ≤ 160) : wfA (endB A n) := by
  obtain ⟨m, hd, hl, hf, hs, hp, hu⟩ := h
  exact ⟨⟨m.1, hn, m.2.2⟩, ⟨hd.1, hd.2.1, rfl, hd.2.2.2⟩, hl, hf, hs, hp, hu⟩
theorem s12_end {P : jP} {M : jM} {A : aS} (h : RelM M A) {a : Int32} {Q : Int32 → jM → Prop} (hq : ∀ M', RelM M' (endA A a) → Q (endS A a) M') : w_X12_end P a M Q := by
  unfold w_X12_end
  have h0 := h.thr 0
  generalize upM M 1 0 0 = M0 at h0 ⊢
  have h6 := h0.num
  unfold wfNum at h6
  have bad : ¬ okZ A a → Q 0 M0 := fun z => by
    have := hq M0 (by rw [endA, if_neg z]; exact h0)
    rw [endS, bi_f z] at this; exact this
  rw [h0.len]
  refine br_c (fun z => bad (fun y => y.1 z)) (fun z1 => br_c (fun z2 => ?_) (fun z => bad (fun y => z y.2)))
  have ok : okZ A a := ⟨z1, z2⟩
  obtain ⟨x, hx, rfl⟩ := okZ_of h0.1 ok
  have hq := hq (upM M0 1 4 (nI x)) (by
    rw [endA, if_pos ok, nI_clamp (by omega)]
    refine ⟨endB_wf h0.1 (by omega), fun k j hk => ?_⟩
    show _ = upM A.2 1 4 (nI x) k j
    rw [up2, up2]
    have hk2 : pA A k j := by
      have e : (endB A x).1 1 = x := rfl
      unfold pA at hk ⊢
      rw [e] at hk
      omega
    rw [h0.2 k j hk2])
  rw [endS, bi_t ok] at hq
  exact hq
theorem endB_C {P : jP} {M : jM} {A : aS} (h : RelC P M A) {n : Nat} (hn : n ≤ A.1 1) : RelC P (upM M 3 1 (nI n)) (endB A n) := by
  have h6 := h.num
  unfold wfNum at h6
  refine h.step (endB_wf h.1 (by omega)) h.2.1 (fun k j hk => ?_) (fun k j hk => ?_)
  · rcases pCs_key hk with rfl | rfl | rfl | rfl | rfl | rfl | rfl | rfl | rfl | rfl | rfl | rfl | rfl | rfl | rfl | rfl | rfl | rfl | rfl | rfl | rfl | rfl | rfl | rfl | rfl
    case inr.inr.inl =>
      have e : j = 1 := hk
      subst e
      exact Or.inr rfl
    case inr.inr.inr.inr.inr.inr.inr.inr.inr.inr.inr.inr.inr.inl =>
      have e : j < n := hk
      exact Or.inl ⟨show j < A.1 1 by omega, rfl, rfl⟩
    all_goals exact Or.inl ⟨hk, rfl, rfl⟩
  · have := pCd_ge hk
    exact ⟨hk, rfl, up_of _ _ _ _ (by omega)⟩
theorem s11_end {P : jP} {M : jM} {A : aS} (h : RelC P M A) {a : Int32} {Q : Int32 → jM → Prop} (hq : ∀ M', RelC P M' (endA A a) → (∀ k, k ≠ 3 → M' k = M k) → Q (endS A a) M') : w_X11_end P a M Q := by
  unfold w_X11_end
  have h6 := h.num
  unfold wfNum at h6
  have bad : ¬ okZ A a → Q 0 M := fun z => by
    have := hq M (by rw [endA, if_neg z]; exact h) (fun _ _ => rfl)
    rw [endS, bi_f z] at this; exact this
  rw [h.len]
  refine br_c (fun z => bad (fun y => y.1 z)) (fun z1 => br_c (fun z2 => ?_) (fun z => bad (fun y => z y.2)))
  have ok : okZ A a := ⟨z1, z2⟩
  obtain ⟨x, hx, rfl⟩ := okZ_of h.1 ok
  have hq := hq (upM M 3 1 (nI x)) (by
    rw [endA, if_pos ok, nI_clamp (by omega)]
    exact endB_C h hx) (fun k a => upM_ne _ _ _ a)
  rw [endS, bi_t ok] at hq
  exact hq
