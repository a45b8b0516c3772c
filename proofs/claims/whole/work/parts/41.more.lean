/-! swap, office, mend, spoiled: both sides -/
theorem any_loop {R : Int32 → Prop} {p : Nat → Bool} {C : Nat} {Y N : Prop} (hy : (∃ c, c < C ∧ p c = true) → Y) (hn : (¬ ∃ c, c < C ∧ p c = true) → N) (hend : N → R (nI C)) (hyes : ∀ c, c < C → p c = true → Y → R (nI c)) (hno : ∀ c, c < C → ¬ p c = true → R (nI (c + 1)) → R (nI c)) : R 0 := by
  refine lp_up (R := fun c => (∀ d, d < c → ¬ p d = true) → R (nI c)) C ?_ ?_ 0 (Nat.zero_le _) (fun d hd => absurd hd (Nat.not_lt_zero d))
  · intro hall
    exact hend (hn (fun ⟨c, h1, h2⟩ => hall c h1 h2))
  · intro c hc ih hall
    by_cases hp : p c = true
    · exact hyes c hc hp (hy ⟨c, hc, hp⟩)
    · refine hno c hc hp (ih (fun d hd => ?_))
      rcases Nat.lt_succ_iff_lt_or_eq.mp hd with h1 | h1
      · exact hall d h1
      · subst h1; exact hp
def anyB (p : Nat → Bool) (C : Nat) : Bool := (List.range C).any p
theorem anyB_iff {p : Nat → Bool} {C : Nat} : anyB p C = true ↔ ∃ c, c < C ∧ p c = true := by
  unfold anyB
  rw [List.any_eq_true]
  exact ⟨fun ⟨c, h1, h2⟩ => ⟨c, List.mem_range.mp h1, h2⟩, fun ⟨c, h1, h2⟩ => ⟨c, List.mem_range.mpr h1, h2⟩⟩
/-! swap -/
def swB (A : aS) (l : Nat) (i : Int32) : Nat → Bool := fun c => (A.2 9 (512 * l + c) &&& (((4 : Int32) <<< (i &&& 31)) - 1)) == ((3 : Int32) <<< (i &&& 31))
def swapS (A : aS) (a i : Int32) : Int32 := if okL A a ∧ (¬ i < 0 ∧ i < nI (cmA A a.toNatClampNeg) - 1) then (if A.2 11 (12 * a.toNatClampNeg + i.toNatClampNeg) = A.2 11 (12 * a.toNatClampNeg + (i.toNatClampNeg + 1)) then 1 else if anyB (swB A a.toNatClampNeg i) (2 ^ A.1 0) = true then 0 else 1) else -1
theorem s12_swap {P : jP} {M : jM} {A : aS} (h : RelM M A) {a i : Int32} {Q : Int32 → jM → Prop} (hq : ∀ M', RelM M' A → Q (swapS A a i) M') : w_X12_swap P a i M Q := by
  unfold w_X12_swap
  have h0 := h.thr 0
  generalize upM M 1 0 0 = M0 at h0 ⊢
  have hq := hq M0 h0
  refine s12_isLaw h0 (br_i (fun hn => ?_) (fun hl => ?_))
  · rw [swapS, if_neg (fun z => hn z.1)] at hq; exact hq
  · obtain ⟨l, hl1, hl2, rfl⟩ := okL_of h0 hl
    obtain ⟨c1, c2, c3, c4, c5⟩ := law_at h0.1.2.2.1 hl1
    have hC := h0.C512
    rw [swapS, nI_clamp (show l < 2 ^ 31 by omega)] at hq
    refine ⟨vin hl2 (by omega), ?_⟩
    rw [nI_clamp (show l < 2 ^ 31 by omega), h0.row (by omega), c3]
    refine s12_isIn (br_j (fun hm => ?_) (fun hn => ?_))
    · obtain ⟨j, hj, rfl⟩ := nI_of hm.1
      have hjc : j + 2 ≤ cmA A l := by
        have := mt (nI_sub_lt (a := cmA A l) (b := 2) (k := j) (by omega) (by omega) hj).mpr hm.2
        omega
      have hlt : nI j < nI (cmA A l) - 1 := (nI_lt_sub (a := cmA A l) (b := 1) (k := j) (by omega) (by omega) hj).mpr (by omega)
      rw [if_pos ⟨hl, hm.1, hlt⟩, nI_clamp hj] at hq
      have ix := ix12 (l := l) (k := j) (N := 72) (by omega) (by omega)
      have ix2 := ix12 (l := l) (k := j + 1) (N := 72) (by omega) (by omega)
      have e2 : (12 : Int32) * nI l + nI j + 1 = 12 * nI l + nI (j + 1) := by rw [Int32.add_assoc, nI_1]
      refine ⟨ix.1, ?_⟩
      rw [e2, ix.2, ix2.2, h0.row (by omega), h0.row (by omega), h0.cases]
      refine ⟨ix2.1, bn_c (fun hne => ?_) (fun he => ?_)⟩
      · rw [if_neg hne] at hq
        intro R hR
        refine any_loop (p := swB A l (nI j)) (C := 2 ^ A.1 0) (Y := Q 0 M0) (N := Q 1 M0) (fun z => ?_) (fun z => ?_) (fun z => hR _ (br_t (nI_le (Nat.le_refl _) (by omega)) z)) (fun c hc hp z => hR _ (br_f (nI_ge hc (by omega)) ⟨(ix512 hl2 (by omega)).1, ?_⟩)) (fun c hc hp z => hR _ (br_f (nI_ge hc (by omega)) ⟨(ix512 hl2 (by omega)).1, ?_⟩))
        · rw [if_pos (anyB_iff.mpr z)] at hq; exact hq
        · rw [if_neg (fun q => z (anyB_iff.mp q))] at hq; exact hq
        · rw [(ix512 hl2 (by omega)).2, h0.row (by omega)]
          unfold swB at hp
          exact bn_t (by simpa using hp) z
        · rw [(ix512 hl2 (by omega)).2, h0.row (by omega)]
          unfold swB at hp
          refine bn_f (by simpa using hp) ?_
          rw [nI_1]; exact z
      · rw [if_pos he] at hq; exact hq
    · rw [if_neg] at hq
      · exact hq
      · rintro ⟨-, z1, z2⟩
        obtain ⟨j, hj, rfl⟩ := nI_of z1
        have := (nI_lt_sub (a := cmA A l) (b := 1) (k := j) (by omega) (by omega) hj).mp z2
        refine hn ⟨z1, fun q => ?_⟩
        have := (nI_sub_lt (a := cmA A l) (b := 2) (k := j) (by omega) (by omega) hj).mp q
        omega
theorem s11_swap {P : jP} {M : jM} {A : aS} (h : RelC P M A) {a i : Int32} {Q : Int32 → Prop} (hq : Q (swapS A a i)) : w_X11_swap P a i M Q := by
  have hC := h.C512
  unfold w_X11_swap
  refine s11_lawAt h (fun hn => br_t rfl ?_) (fun l hl el => br_f (by omega) ?_)
  · rw [swapS, if_neg (fun z => hn z.1)] at hq; exact hq
  · subst el
    have ol := okL_mk (M := M) h.1 hl
    obtain ⟨c1, c2, c3, c4, c5⟩ := law_at h.1.2.2.1 hl
    rw [swapS, nI_clamp (show l < 2 ^ 31 by omega)] at hq
    rw [h.many hl, c3]
    refine br_c (fun z => ?_) (fun z => ⟨h.lw hl, br_c (fun hk => ?_) (fun hk => ?_)⟩)
    · rw [if_neg (fun q => q.2.1 z)] at hq; exact hq
    · rw [if_pos ⟨ol.1, z, hk⟩] at hq
      obtain ⟨j, hj, rfl⟩ := nI_of z
      have hjc := (nI_lt_sub (a := cmA A l) (b := 1) (k := j) (by omega) (by omega) hj).mp hk
      rw [nI_clamp hj] at hq
      refine ⟨h.lw hl, jin_of (h.ia hl).1 (by omega) (by omega), h.lw hl, ?_⟩
      rw [nI_1]
      refine ⟨jin_of (h.ia hl).1 (by omega) (by omega), ?_⟩
      rw [nI_clamp (show j < 2 ^ 31 by omega), nI_clamp (show j + 1 < 2 ^ 31 by omega), h.out hl (show j < cmA A l by omega), h.out hl (show j + 1 < cmA A l by omega), h.cases]
      refine bn_c (fun hne => ?_) (fun he => ?_)
      · rw [if_neg hne] at hq
        intro R hR
        refine any_loop (p := swB A l (nI j)) (C := 2 ^ A.1 0) (Y := Q 0) (N := Q 1) (fun z => ?_) (fun z => ?_) (fun z => hR _ (br_t (nI_le (Nat.le_refl _) (by omega)) z)) (fun c hc hp z => hR _ (br_f (nI_ge hc (by omega)) ⟨h.lw hl, jin_of (h.ia hl).2.1 hc (by omega), ?_⟩)) (fun c hc hp z => hR _ (br_f (nI_ge hc (by omega)) ⟨h.lw hl, jin_of (h.ia hl).2.1 hc (by omega), ?_⟩))
        · rw [if_pos (anyB_iff.mpr z)] at hq; exact hq
        · rw [if_neg (fun q => z (anyB_iff.mp q))] at hq; exact hq
        · rw [nI_clamp (show c < 2 ^ 31 by omega), h.held hl hc]
          unfold swB at hp
          exact bn_t (by simpa using hp) z
        · rw [nI_clamp (show c < 2 ^ 31 by omega), h.held hl hc]
          unfold swB at hp
          refine bn_f (by simpa using hp) ?_
          rw [nI_1]; exact z
      · rw [if_pos he] at hq; exact hq
    · rw [if_neg (fun q => hk q.2.2)] at hq; exact hq
/-! office -/
def offB (A : aS) (l a b : Nat) : Nat → Bool := fun c => (c.testBit a != c.testBit b) && !(sdA A l c == sdA A l (c ^^^ 2 ^ a ^^^ 2 ^ b))
def officeS (A : aS) (a x y : Int32) : Int32 := if okL A a ∧ okN A x ∧ okN A y ∧ ¬ x = y then nI (cntB (offB A a.toNatClampNeg x.toNatClampNeg y.toNatClampNeg) (2 ^ A.1 0)) else -1
theorem bi_ne {p q : Bool} : (bi (p = true) = bi (q = true)) ↔ p = q := by
  cases p <;> cases q <;> decide
theorem okN_mk {A : aS} (h : wfA A) {a : Int32} (ha : okN A a) : ∃ c, c < A.1 0 ∧ c < 9 ∧ a = nI c := by
  have := h.1.1.2
  obtain ⟨l, h1, h2⟩ := (ok3 (by omega)).mp ha
  exact ⟨l, h1, by omega, h2⟩
theorem s12_office {P : jP} {M : jM} {A : aS} (h : RelM M A) {a x y : Int32} {Q : Int32 → jM → Prop} (hq : ∀ M', RelM M' A → Q (officeS A a x y) M') : w_X12_office P a x y M Q := by
  unfold w_X12_office
  have h0 := h.thr 0
  generalize upM M 1 0 0 = M0 at h0 ⊢
  have hq := hq M0 h0
  refine s12_isLaw h0 (br_i (fun hn => ?_) (fun hl => s12_isFactNumber h0 (br_i (fun hn => ?_) (fun hx => s12_isFactNumber h0 (br_i (fun hn => ?_) (fun hy => bn_c (fun hne => ?_) (fun he => ?_)))))))
  · rw [officeS, if_neg (fun z => hn z.1)] at hq; exact hq
  · rw [officeS, if_neg (fun z => hn z.2.1)] at hq; exact hq
  · rw [officeS, if_neg (fun z => hn z.2.2.1)] at hq; exact hq
  · rw [officeS, if_pos ⟨hl, hx, hy, hne⟩] at hq
    obtain ⟨l, hl1, hl2, rfl⟩ := okL_of h0 hl
    obtain ⟨u, hu1, hu2, rfl⟩ := okN_of h0 hx
    obtain ⟨v, hv1, hv2, rfl⟩ := okN_of h0 hy
    rw [nI_clamp (by omega), nI_clamp (by omega), nI_clamp (by omega)] at hq
    have hC := h0.C512
    rw [h0.cases, shl1 (by omega), shl1 (by omega)]
    intro R hR
    refine lp_up (R := fun c => R (nI (cntB (offB A l u v) c)) (nI c)) (2 ^ A.1 0) ?_ ?_ 0 (Nat.zero_le _)
    · exact hR _ _ (br_t (nI_le (Nat.le_refl _) (by omega)) hq)
    · intro c hc ih
      have hz := xor_bit_lt (xor_bit_lt hc hu1) hv1
      refine hR _ _ (br_f (nI_ge hc (by omega)) (s12_has (by omega) (by omega) (s12_has (by omega) (by omega) ?_)))
      intro R98 h98
      have no : ¬ offB A l u v c = true → R98 0 := fun z => by
        rw [cntB_f z] at ih
        exact h98 _ (by rw [show (0 : Int32) = nI 0 from rfl, nI_add, nI_1, Nat.add_zero]; exact ih)
      have yes : offB A l u v c = true → R98 1 := fun z => by
        rw [cntB_t z] at ih
        exact h98 _ (by rw [nI_1, nI_1]; exact ih)
      unfold offB at no yes
      rw [bi_ne]
      refine br_c (fun e => no (by simp [e])) (fun e => s12_saidOn h0 hl2 (by omega) ?_)
      rw [nI_xor, nI_xor]
      refine s12_saidOn h0 hl2 (by omega) (br_c (fun e2 => no (by simp [e2])) (fun e2 => yes (by simp [e, e2])))
  · rw [officeS, if_neg (fun z => z.2.2.2 he)] at hq; exact hq
theorem s11_office {P : jP} {M : jM} {A : aS} (h : RelC P M A) {a x y : Int32} {Q : Int32 → Prop} (hq : Q (officeS A a x y)) : w_X11_office P a x y M Q := by
  have hC := h.C512
  unfold w_X11_office
  refine s11_lawAt h (fun hn => br_t rfl ?_) (fun l hl el => br_f (by omega) (s11_isFact h (br_i (fun hn => ?_) (fun hx => s11_isFact h (br_i (fun hn => ?_) (fun hy => bn_c (fun hne => ?_) (fun he => ?_)))))))
  · rw [officeS, if_neg (fun z => hn z.1)] at hq; exact hq
  · rw [officeS, if_neg (fun z => hn z.2.1)] at hq; exact hq
  · rw [officeS, if_neg (fun z => hn z.2.2.1)] at hq; exact hq
  · subst el
    have ol := okL_mk (M := M) h.1 hl
    rw [officeS, if_pos ⟨ol.1, hx, hy, hne⟩] at hq
    obtain ⟨u, hu1, hu2, rfl⟩ := okN_mk h.1 hx
    obtain ⟨v, hv1, hv2, rfl⟩ := okN_mk h.1 hy
    have huv : u ≠ v := fun e => hne (by rw [e])
    rw [nI_clamp (by omega), nI_clamp (by omega), nI_clamp (by omega)] at hq
    rw [h.cases, shl1 (by omega), shl1 (by omega)]
    intro R hR
    refine lp_up (R := fun c => R (nI (cntB (offB A l u v) c)) (nI c)) (2 ^ A.1 0) ?_ ?_ 0 (Nat.zero_le _)
    · exact hR _ _ (br_t (nI_le (Nat.le_refl _) (by omega)) hq)
    · intro c hc ih
      have hz := xor_bit_lt (xor_bit_lt hc hu1) hv1
      refine hR _ _ (br_f (nI_ge hc (by omega)) ?_)
      have exor : c ^^^ (2 ^ u ||| 2 ^ v) = c ^^^ 2 ^ u ^^^ 2 ^ v := by
        apply Nat.eq_of_testBit_eq
        intro i
        rw [Nat.testBit_xor, Nat.testBit_or, Nat.testBit_xor, Nat.testBit_xor, Nat.testBit_two_pow, Nat.testBit_two_pow]
        by_cases h1 : u = i
        · have h2 : ¬ v = i := by omega
          simp [h1, h2]
        · simp [h1]
      intro R79 h79
      have fin : ∀ d, d < 2 ^ A.1 0 → (offB A l u v c = true ↔ sdA A l d ≠ sdA A l c) → (cLw P (64 + 8 * l) = true ∧ jin P (64 + 8 * l + 3) (nI d) ∧ cLw P (64 + 8 * l) = true ∧ jin P (64 + 8 * l + 3) (nI c) ∧ ∀ R125 : Int32 → Prop, (∀ x23 : Int32, R x23 (nI c + 1) → R125 x23) → (M (64 + 8 * l + 3) (nI d).toNatClampNeg = M (64 + 8 * l + 3) (nI c).toNatClampNeg → R125 (nI (cntB (offB A l u v) c))) ∧ (¬ M (64 + 8 * l + 3) (nI d).toNatClampNeg = M (64 + 8 * l + 3) (nI c).toNatClampNeg → R125 (nI (cntB (offB A l u v) c) + 1))) := by
        intro d hd hiff
        refine ⟨h.lw hl, jin_of (h.ia hl).2.2.1 hd (by omega), h.lw hl, jin_of (h.ia hl).2.2.1 hc (by omega), ?_⟩
        rw [nI_clamp (show d < 2 ^ 31 by omega), nI_clamp (show c < 2 ^ 31 by omega), h.said hl hd, h.said hl hc]
        intro R125 h125
        refine br_c (fun e => h125 _ ?_) (fun e => h125 _ ?_)
        · rw [cntB_f (fun z => hiff.mp z e)] at ih
          rw [nI_1]; exact ih
        · rw [cntB_t (hiff.mpr e)] at ih
          rw [nI_1, nI_1]; exact ih
      have ebit : ((nI c >>> (nI u &&& 31)) &&& 1 = (nI c >>> (nI v &&& 31)) &&& 1) ↔ c.testBit u = c.testBit v := by
        rw [bit1 (by omega) (by omega), bit1 (by omega) (by omega)]
        cases c.testBit u <;> cases c.testBit v <;> decide
      rw [ebit]
      refine bn_c (fun e => h79 0 ?_) (fun e => h79 1 ?_)
      · intro R101 h101
        refine br_t rfl (h101 _ ?_)
        rw [nI_or, nI_xor, exor]
        refine fin _ hz ?_
        unfold offB
        have e1 : (c.testBit u != c.testBit v) = true := by simpa using e
        rw [e1]
        simp only [Bool.true_and, Bool.not_eq_true', beq_eq_false_iff_ne, ne_eq]
        exact ⟨fun z q => z q.symm, fun z q => z q.symm⟩
      · intro R101 h101
        refine br_f (by decide) (h101 _ ?_)
        refine fin _ hc ?_
        unfold offB
        simp [e]
  · rw [officeS, if_neg (fun z => z.2.2.2 he)] at hq; exact hq
