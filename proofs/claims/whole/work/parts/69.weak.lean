/-! off (the class's side), weak: both sides -/
theorem s11_off {P : jP} {M : jM} {N : jN} {A : aS} (h : RelC P M A) {a b k : Int32} {Q : Int64 → jN → Prop} (hq : ∀ N' : jN, (∀ q, q ≠ 14 → N' q = N q) → Q (offS A a b k) N') : w_X11_off P a b k M N Q := by
  unfold w_X11_off
  have hC := h.C512
  have h0 := hq N (fun _ _ => rfl)
  refine s11_formAt h (fun hn => s11_lawAt h (fun _ => br_t rfl ?_) (fun _ _ _ => br_t rfl ?_)) (fun f hf ef => s11_lawAt h (fun hn => br_f (by omega) (br_t rfl ?_)) (fun l hl el => br_f (by omega) (br_f (by omega) (s11_isCase h (br_j (fun hk => ?_) (fun hn => ?_))))))
  · rw [offS, if_neg (fun z => hn z.1)] at h0; exact h0
  · rw [offS, if_neg (fun z => hn z.1)] at h0; exact h0
  · rw [offS, if_neg (fun z => hn z.2.1)] at h0; exact h0
  · subst ef el
    have of := okF_mk h.1 hf
    have ol := okL_mk (M := M) h.1 hl
    obtain ⟨c, hc, rfl⟩ := (ok3 (by omega)).mp hk
    rw [offS, if_pos ⟨of.1, ol.1, hk⟩, nI_clamp (by omega), nI_clamp (by omega), nI_clamp (by omega)] at hq
    exact s11_offOn h hf hl hc hq
  · rw [offS, if_neg (fun z => hn z.2.2)] at h0; exact h0
def wkS (A : aS) (f l x : Nat) : Nat → Int64
  | 0 => 0
  | c + 1 => wkS A f l x c + lN (offN A f c (sdA A l c) (nI x) 20 0 1000000000000)
def wkF (A : aS) (f l : Nat) : Nat → Int32 × Int64
  | 0 => (-1, 0)
  | x + 1 => if (wkF A f l x).1 = -1 ∨ lg_cmp (wkS A f l x (2 ^ A.1 0)) (wkF A f l x).2 < 0 then (nI x, wkS A f l x (2 ^ A.1 0)) else wkF A f l x
def weakS (A : aS) (a b : Int32) : Int32 := if okF A a ∧ okL A b then (wkF A a.toNatClampNeg b.toNatClampNeg (A.1 0)).1 else -1
theorem s12_weak {P : jP} {M : jM} {A : aS} (h : RelM M A) {a b : Int32} {Q : Int32 → jM → Prop} (hq : ∀ M', RelM M' A → Q (weakS A a b) M') : w_X12_weak P a b M Q := by
  unfold w_X12_weak
  have h0 := h.thr 0
  generalize upM M 1 0 0 = M0 at h0 ⊢
  have hq := hq M0 h0
  have h6 := h0.num
  unfold wfNum at h6
  have hC := h0.C512
  refine s12_isForm h0 (br_i (fun hn => ?_) (fun hf => s12_isLaw h0 (br_j (fun hl => ?_) (fun hn => ?_))))
  · rw [weakS, if_neg (fun z => hn z.1)] at hq; exact hq
  · rw [weakS, if_pos ⟨hf, hl⟩] at hq
    obtain ⟨f, hf1, hf2, rfl⟩ := okF_of h0 hf
    obtain ⟨l, hl1, hl2, rfl⟩ := okL_of h0 hl
    rw [nI_clamp (show f < 2 ^ 31 by omega), nI_clamp (show l < 2 ^ 31 by omega)] at hq
    obtain ⟨nm, h1, h2, h3, h4⟩ := form_ok h0.1.2.2.2.1 hf1
    rw [h0.facts, h0.cases]
    intro R31 h31
    refine lp_up (R := fun x => R31 (wkF A f l x).1 (wkF A f l x).2 (nI x)) (A.1 0) (h31 _ _ _ (br_t (nI_le (Nat.le_refl _) (by omega)) hq)) ?_ 0 (Nat.zero_le _)
    intro x hx ih
    refine h31 _ _ _ (br_f (nI_ge hx (by omega)) ?_)
    intro R46 h46
    have step : wkF A f l (x + 1) = if (wkF A f l x).1 = -1 ∨ lg_cmp (wkS A f l x (2 ^ A.1 0)) (wkF A f l x).2 < 0 then (nI x, wkS A f l x (2 ^ A.1 0)) else wkF A f l x := rfl
    refine lp_up (R := fun c => R46 (wkS A f l x c) (nI c)) (2 ^ A.1 0) ?_ ?_ 0 (Nat.zero_le _)
    · refine h46 _ _ (br_t (nI_le (Nat.le_refl _) (by omega)) ?_)
      intro R109 h109 R102 h102
      have take : ((wkF A f l x).1 = -1 ∨ lg_cmp (wkS A f l x (2 ^ A.1 0)) (wkF A f l x).2 < 0) → R102 := fun z => h102 (h109 _ _ (by
        rw [step, if_pos z] at ih
        rw [nI_1]; exact ih))
      refine br_c (fun z => take (Or.inl z)) (fun z => br_c (fun z2 => take (Or.inr z2)) (fun z2 => h109 _ _ ?_))
      rw [step, if_neg (fun q => q.elim z z2)] at ih
      rw [nI_1]; exact ih
    · intro c hc ih2
      refine h46 _ _ (br_f (nI_ge hc (by omega)) (s12_saidOn h0 hl2 (by omega) ?_))
      exact s12_offFrom h0 hf1 h2 h3 (by omega) 20 0 1000000000000 _ (Or.inl (by omega)) (by omega) (by omega) (by omega) (by rw [nI_1]; exact ih2)
  · rw [weakS, if_neg (fun z => hn z.2)] at hq; exact hq
theorem s11_weak {P : jP} {M : jM} {N : jN} {A : aS} (h : RelC P M A) {a b : Int32} {Q : Int32 → jN → Prop} (hq : ∀ N' : jN, (∀ q, q ≠ 14 → N' q = N q) → Q (weakS A a b) N') : w_X11_weak P a b M N Q := by
  unfold w_X11_weak
  have hC := h.C512
  have h6 := h.num
  unfold wfNum at h6
  have h0 := hq N (fun _ _ => rfl)
  refine s11_formAt h (fun hn => s11_lawAt h (fun _ => br_t rfl ?_) (fun _ _ _ => br_t rfl ?_)) (fun f hf ef => s11_lawAt h (fun hn => br_f (by omega) ⟨fun z => absurd rfl z, fun _ => ?_⟩) (fun l hl el => br_f (by omega) ⟨fun _ => ?_, fun z => absurd z (by omega)⟩))
  · rw [weakS, if_neg (fun z => hn z.1)] at h0; exact h0
  · rw [weakS, if_neg (fun z => hn z.1)] at h0; exact h0
  · rw [weakS, if_neg (fun z => hn z.2)] at h0; exact h0
  · subst ef el
    have of := okF_mk h.1 hf
    have ol := okL_mk (M := M) h.1 hl
    rw [weakS, if_pos ⟨of.1, ol.1⟩, nI_clamp (by omega), nI_clamp (by omega)] at hq
    rw [h.facts, h.cases]
    intro R33 h33
    refine lp_up (R := fun x => ∀ N' : jN, (∀ q, q ≠ 14 → N' q = N q) → R33 (wkF A f l x).1 (wkF A f l x).2 (nI x) N') (A.1 0) (fun N' hN => h33 _ _ _ _ (br_t (nI_le (Nat.le_refl _) (by omega)) (hq N' hN))) ?_ 0 (Nat.zero_le _) N (fun _ _ => rfl)
    intro x hx ih N1 hN1
    refine h33 _ _ _ _ (br_f (nI_ge hx (by omega)) ?_)
    intro R51 h51
    have step : wkF A f l (x + 1) = if (wkF A f l x).1 = -1 ∨ lg_cmp (wkS A f l x (2 ^ A.1 0)) (wkF A f l x).2 < 0 then (nI x, wkS A f l x (2 ^ A.1 0)) else wkF A f l x := rfl
    refine lp_up (R := fun c => ∀ N' : jN, (∀ q, q ≠ 14 → N' q = N q) → R51 (wkS A f l x c) (nI c) N') (2 ^ A.1 0) ?_ ?_ 0 (Nat.zero_le _) N1 hN1
    · intro N2 hN2
      have ih := ih N2 hN2
      refine h51 _ _ _ (br_t (nI_le (Nat.le_refl _) (by omega)) ?_)
      intro R107 h107 R99 h99
      have take : ((wkF A f l x).1 = -1 ∨ lg_cmp (wkS A f l x (2 ^ A.1 0)) (wkF A f l x).2 < 0) → R99 := fun z => h99 (h107 _ _ (by
        rw [step, if_pos z] at ih
        rw [nI_1]; exact ih))
      refine br_c (fun z => take (Or.inl z)) (fun z => br_c (fun z2 => h107 _ _ ?_) (fun z2 => take (Or.inr (Int32.not_le.mp z2))))
      rw [step, if_neg (fun q => q.elim z (fun y => Int32.not_lt.mpr z2 y))] at ih
      rw [nI_1]; exact ih
    · intro c hc ih2 N2 hN2
      refine h51 _ _ _ (br_f (nI_ge hc (by omega)) (s11_offOn h hf hl hc (fun N' hN' => ?_)))
      rw [nI_1]
      exact ih2 N' (fun q hq => (hN' q hq).trans (hN2 q hq))
