/-! page: both sides -/
def mF (A : aS) (s : Nat) (q : Nat) : Nat := if s.testBit q = true then (A.2 13 q).toNatClampNeg else 0
abbrev mN (A : aS) (s : Nat) : Nat := sumN (mF A s) (A.1 3)
theorem mF_le {A : aS} (h : wfSet A) (s : Nat) {q : Nat} (hq : q < 10) : mF A s q ≤ 99 := by
  obtain ⟨m, h1, h2, h3⟩ := h.2.1 q hq
  unfold mF
  split
  · rw [h3, nI_clamp (by omega)]; exact h2
  · omega
theorem mS_le {A : aS} (h : wfSet A) (s : Nat) : ∀ n, n ≤ 10 → sumN (mF A s) n ≤ 99 * n
  | 0, _ => Nat.le_refl 0
  | n + 1, hn => by
    have := mS_le h s n (by omega)
    have := mF_le h s (q := n) (by omega)
    show sumN (mF A s) n + mF A s n ≤ _
    omega
theorem s12_minutesOf {P : jP} {M : jM} {A : aS} (h : RelM M A) {s : Nat} (hs : s < 1024) {Q : Int32 → Prop} (hq : Q (nI (mN A s))) : w_X12_minutesOf P (nI s) M Q := by
  have h6 := h.num
  unfold wfNum at h6
  unfold w_X12_minutesOf
  rw [h.qs]
  intro R hR
  refine lp_up (R := fun q => R (nI (sumN (mF A s) q)) (nI q)) (A.1 3) (hR _ _ (br_t (nI_le (Nat.le_refl _) (by omega)) hq)) ?_ 0 (Nat.zero_le _)
  intro q hq2 ih
  refine hR _ _ (br_f (nI_ge hq2 (by omega)) (s12_has (by omega) (by omega) ?_))
  intro R31 h31
  obtain ⟨m, m1, m2, m3⟩ := h.1.2.2.2.2.1.2.1 q (by omega)
  have step : sumN (mF A s) (q + 1) = sumN (mF A s) q + mF A s q := rfl
  refine br_i (fun z => h31 _ ?_) (fun z => ⟨vin (by omega) (by omega), h31 _ ?_⟩)
  · rw [step, mF, if_neg z] at ih
    rw [show (0 : Int32) = nI 0 from rfl, nI_add, nI_1]
    exact ih
  · rw [step, mF, if_pos z, m3, nI_clamp (by omega)] at ih
    rw [nI_clamp (by omega), h.row (by omega), m3, nI_add, nI_1]
    exact ih
theorem s11_minutesOf {P : jP} {M : jM} {A : aS} (h : RelC P M A) {s : Nat} (hs : s < 1024) {Q : Int32 → Prop} (hq : Q (nI (mN A s))) : w_X6_minutesOf P (nI s) M Q := by
  have h6 := h.num
  unfold wfNum at h6
  unfold w_X6_minutesOf
  rw [h.qn]
  intro R hR
  refine lp_up (R := fun q => R (nI (sumN (mF A s) q)) (nI q)) (A.1 3) (hR _ _ (br_t (nI_le (Nat.le_refl _) (by omega)) hq)) ?_ 0 (Nat.zero_le _)
  intro q hq2 ih
  refine hR _ _ (br_f (nI_ge hq2 (by omega)) ?_)
  intro R29 h29
  obtain ⟨m, m1, m2, m3⟩ := h.1.2.2.2.2.1.2.1 q (by omega)
  have step : sumN (mF A s) (q + 1) = sumN (mF A s) q + mF A s q := rfl
  rw [bit1_0 (by omega) (by omega)]
  refine br_c (fun z => h29 _ ?_) (fun z => ⟨vin (by omega) (by omega), h29 _ ?_⟩)
  · rw [step, mF, if_neg z, Nat.add_zero] at ih
    rw [nI_1]
    exact ih
  · have z : s.testBit q = true := Classical.byContradiction z
    rw [step, mF, if_pos z, m3, nI_clamp (by omega)] at ih
    have e : M 38 q = A.2 13 q := h.2.2.1 38 q hq2
    rw [nI_clamp (by omega), e, m3, nI_add, nI_1]
    exact ih
/-- the answers to a set tell what is said, on the cases below n -/
def toldP (A : aS) (l s n : Nat) : Prop := ∀ c, c < n → ∀ d, d < n → ansA A c &&& s = ansA A d &&& s → sdA A l c = sdA A l d
theorem told_step {A : aS} {l s n d : Nat} (h : toldP A l s n) (hd : d < n) (e1 : ansA A d &&& s = ansA A n &&& s) (e2 : sdA A l d = sdA A l n) : toldP A l s (n + 1) := by
  have key : ∀ c, c < n → ansA A c &&& s = ansA A n &&& s → sdA A l c = sdA A l n := fun c hc e => (h c hc d hd (e.trans e1.symm)).trans e2
  intro a ha b hb e
  rcases Nat.lt_succ_iff_lt_or_eq.mp ha with h1 | h1 <;> rcases Nat.lt_succ_iff_lt_or_eq.mp hb with h2 | h2
  · exact h a h1 b h2 e
  · subst h2; exact key a h1 e
  · subst h1; exact (key b h2 e.symm).symm
  · subst h1; subst h2; rfl
theorem told_new {A : aS} {l s n : Nat} (h : toldP A l s n) (hn : ∀ d, d < n → ansA A d &&& s ≠ ansA A n &&& s) : toldP A l s (n + 1) := by
  intro a ha b hb e
  rcases Nat.lt_succ_iff_lt_or_eq.mp ha with h1 | h1 <;> rcases Nat.lt_succ_iff_lt_or_eq.mp hb with h2 | h2
  · exact h a h1 b h2 e
  · subst h2; exact absurd e (hn a h1)
  · subst h1; exact absurd e.symm (hn b h2)
  · subst h1; subst h2; rfl
theorem s12_isTold {P : jP} {M : jM} {A : aS} (h : RelM M A) {l s : Nat} (hl : l < A.1 2) (hs : s < 1024) {Q : Int32 → jM → Prop} (h1 : toldP A l s (2 ^ A.1 0) → ∀ M', RelM M' A → Q 1 M') (h0 : ¬ toldP A l s (2 ^ A.1 0) → ∀ M', RelM M' A → Q 0 M') : w_X12_isTold P (nI l) (nI s) M Q := by
  have h6 := h.num
  unfold wfNum at h6
  have hC := h.C512
  have up23 : ∀ {M' : jM} (j : Nat) (v : Int32), RelM M' A → RelM (upM M' 23 j v) A := fun j v z => z.up v (by unfold pA; omega)
  unfold w_X12_isTold
  intro R2 h2
  have main : ∀ k, k ≤ 1024 → ∀ M', RelM M' A → (∀ j, j < k → M' 23 j = -2) → R2 (nI k) M' := by
    refine fun k hk => lp_up (R := fun k => ∀ M', RelM M' A → (∀ j, j < k → M' 23 j = -2) → R2 (nI k) M') 1024 ?_ ?_ k hk
    · intro M1 hr hz
      refine h2 _ _ (br_t (nI_le (a := 1024) (Nat.le_refl _) (by omega)) ?_)
      intro R25 h25
      have go : ∀ c, c ≤ 2 ^ A.1 0 → ∀ M', RelM M' A → toldP A l s c → (∀ j, j < 1024 → (∃ d, d < c ∧ ansA A d &&& s = j ∧ M' 23 j = sdA A l d) ∨ ((∀ d, d < c → ansA A d &&& s ≠ j) ∧ M' 23 j = -2)) → R25 (nI c) M' := by
        refine fun c hc => lp_up (R := fun c => ∀ M', RelM M' A → toldP A l s c → (∀ j, j < 1024 → (∃ d, d < c ∧ ansA A d &&& s = j ∧ M' 23 j = sdA A l d) ∨ ((∀ d, d < c → ansA A d &&& s ≠ j) ∧ M' 23 j = -2)) → R25 (nI c) M') (2 ^ A.1 0) ?_ ?_ c hc
        · intro M2 hr2 ht hj
          exact h25 _ _ (by rw [hr2.cases]; exact br_t (nI_le (Nat.le_refl _) (by omega)) (h1 ht M2 hr2))
        · intro c hc ih M2 hr2 ht hj
          refine h25 _ _ ?_
          rw [hr2.cases]
          have ha := and_lt1024 (b := s) (ansA_lt hr2.1 c)
          refine br_f (nI_ge hc (by omega)) (s12_answersOf hr2 hs hc ⟨vin (by omega) (by omega), ?_⟩)
          intro R71 h71
          rw [nI_clamp (show ansA A c &&& s < 2 ^ 31 by omega)]
          have put : toldP A l s (c + 1) → R71 := fun ht2 => h71 (s12_saidOn hr2 (by omega) (by omega) ⟨vin (by omega) (by omega), by
            rw [nI_1]
            refine ih _ (up23 _ _ hr2) ht2 (fun j hj1 => ?_)
            rw [up_at, nI_clamp (show ansA A c &&& s < 2 ^ 31 by omega)]
            by_cases e : j = ansA A c &&& s
            · rw [if_pos e]; exact Or.inl ⟨c, by omega, e.symm, rfl⟩
            · rw [if_neg e]
              rcases hj j hj1 with ⟨d, d1, d2, d3⟩ | ⟨d1, d2⟩
              · exact Or.inl ⟨d, by omega, d2, d3⟩
              · refine Or.inr ⟨fun d hd => ?_, d2⟩
                rcases Nat.lt_succ_iff_lt_or_eq.mp hd with q | q
                · exact d1 d q
                · subst q; exact fun z => e z.symm⟩)
          rcases hj _ ha with ⟨d, d1, d2, d3⟩ | ⟨d1, d2⟩
          · rw [d3]
            refine br_f (sd_ne2 hr2.1.2.2.1 hl (by omega)) ⟨vin (by omega) (by omega), s12_saidOn hr2 (by omega) (by omega) (br_c (fun e => put (told_step ht d1 d2 e)) (fun e => h0 (fun z => e (z d (by omega) c hc d2)) M2 hr2))⟩
          · exact br_t d2 (put (told_new ht d1))
      exact go 0 (Nat.zero_le _) M1 hr (fun c hc => absurd hc (Nat.not_lt_zero c)) (fun j hj => Or.inr ⟨fun d hd => absurd hd (Nat.not_lt_zero d), hz j hj⟩)
    · intro k hk ih M1 hr hz
      refine h2 _ _ (br_f (nI_ge (b := 1024) hk (by omega)) ⟨vin hk (by omega), ?_⟩)
      rw [nI_clamp (show k < 2 ^ 31 by omega), nI_1]
      refine ih _ (up23 _ _ hr) (fun j hj => ?_)
      rw [up_at]
      by_cases e : j = k
      · rw [if_pos e]
      · rw [if_neg e]; exact hz j (by omega)
  exact main 0 (Nat.zero_le _) M h (fun j hj => absurd hj (Nat.not_lt_zero j))
/-! the class's marks -/
def MkOK (M : jM) (B : Nat) : Prop := ∃ m, M 9 6 = nI m ∧ m ≤ B ∧ ∀ j, j < 1024 → ∃ v, M 40 j = nI v ∧ v < 8 * (m + 1)
abbrev agM (M M' : jM) : Prop := ∀ k j, ¬ (k = 9 ∧ j = 6) → k ≠ 40 → M' k j = M k j
theorem RelC.kM {P : jP} {M M' : jM} {A : aS} (h : RelC P M A) (hM : agM M M') : RelC P M' A :=
  h.agree (fun k j hj => hM k j (by rintro ⟨rfl, rfl⟩; exact absurd hj (by show ¬ (6 = 0); omega)) (by rintro rfl; exact hj)) (fun k j hj => by have := pCd_ge hj; exact hM k j (by omega) (by omega))
theorem s11_isToldBy {P : jP} {M : jM} {A : aS} {B : Nat} (h : RelC P M A) (hm : MkOK M B) (hB : B < 2 ^ 26) {l s : Nat} (hl : l < A.1 2) (hs : s < 1024) {Q : Int32 → jM → Prop} (h1 : toldP A l s (2 ^ A.1 0) → ∀ M', agM M M' → MkOK M' (B + 1) → Q 1 M') (h0 : ¬ toldP A l s (2 ^ A.1 0) → ∀ M', agM M M' → MkOK M' (B + 1) → Q 0 M') : w_X6_isToldBy P (nI s) (64 + 8 * l + 3) M Q := by
  have hC := h.C512
  obtain ⟨m, m1, m2, m3⟩ := hm
  unfold w_X6_isToldBy
  rw [h.z1]
  intro R hR
  have fin : ∀ {c : Nat} {M' : jM}, M' 9 6 = nI (m + 1) → (∀ j, j < 1024 → (∃ d, d < c ∧ ansA A d &&& s = j ∧ M' 40 j = nI (8 * (m + 1) + soN A l d)) ∨ ((∀ d, d < c → ansA A d &&& s ≠ j) ∧ ∃ v, M' 40 j = nI v ∧ v < 8 * (m + 1))) → c ≤ 2 ^ A.1 0 → MkOK M' (B + 1) := by
    intro c M' e hj hc
    refine ⟨m + 1, e, by omega, fun j hj1 => ?_⟩
    rcases hj j hj1 with ⟨d, d1, d2, d3⟩ | ⟨d1, v, d2, d3⟩
    · exact ⟨_, d3, by have := (so_ok h.1.2.2.1 hl (c := d) (by omega)).2; omega⟩
    · exact ⟨v, d2, by omega⟩
  have main : ∀ c, c ≤ 2 ^ A.1 0 → ∀ M', agM M M' → M' 9 6 = nI (m + 1) → toldP A l s c → (∀ j, j < 1024 → (∃ d, d < c ∧ ansA A d &&& s = j ∧ M' 40 j = nI (8 * (m + 1) + soN A l d)) ∨ ((∀ d, d < c → ansA A d &&& s ≠ j) ∧ ∃ v, M' 40 j = nI v ∧ v < 8 * (m + 1))) → R (nI c) M' := by
    refine fun c hc => lp_up (R := fun c => ∀ M', agM M M' → M' 9 6 = nI (m + 1) → toldP A l s c → (∀ j, j < 1024 → (∃ d, d < c ∧ ansA A d &&& s = j ∧ M' 40 j = nI (8 * (m + 1) + soN A l d)) ∨ ((∀ d, d < c → ansA A d &&& s ≠ j) ∧ ∃ v, M' 40 j = nI v ∧ v < 8 * (m + 1))) → R (nI c) M') (2 ^ A.1 0) ?_ ?_ c hc
    · intro M1 hM e ht hj
      exact hR _ _ (br_t (nI_le (Nat.le_refl _) (by omega)) (h1 ht M1 hM (fin e hj (Nat.le_refl _))))
    · intro c hc ih M1 hM e ht hj
      have hr := h.kM hM
      have ha := and_lt1024 (b := s) (ansA_lt h.1 c)
      obtain ⟨so1, so2⟩ := so_ok h.1.2.2.1 hl hc
      refine hR _ _ (br_f (nI_ge hc (by omega)) ⟨jin_of (h.ia hl).2.2.1 hc (by omega), ?_⟩)
      intro y hy
      have eor : (m + 1) <<< 3 ||| soN A l c = 8 * (m + 1) + soN A l c := by
        rw [← Nat.shiftLeft_add_eq_or_of_lt (show soN A l c < 2 ^ 3 by omega), Nat.shiftLeft_eq]
        omega
      rw [nI_clamp (show c < 2 ^ 31 by omega), hr.said hl hc, so1, e, show (3 : Int32) = nI 3 from rfl, nI_shl _ (by omega), nI_or, eor] at hy
      rw [nI_clamp (show c < 2 ^ 31 by omega), hr.ans hc, nI_and]
      refine ⟨vin hc (by omega), vin ha (by omega), ?_⟩
      intro R87 h87
      rw [nI_clamp (show ansA A c &&& s < 2 ^ 31 by omega), e, show (3 : Int32) = nI 3 from rfl]
      rcases hj _ ha with ⟨d, d1, d2, d3⟩ | ⟨d1, v, d2, d3⟩
      · obtain ⟨sd1, sd2⟩ := so_ok h.1.2.2.1 hl (c := d) (by omega)
        rw [d3, nI_shr (by omega) (by omega), Nat.shiftRight_eq_div_pow, hy]
        refine br_t (congrArg nI (by omega)) ⟨vin ha (by omega), br_c (fun z => ?_) (fun z => ?_)⟩
        · have z2 : soN A l d = soN A l c := by
            have := (nI_eq (by omega) (by omega)).mp z
            omega
          have z3 := (so_eq h.1.2.2.1 hl (c := d) (d := c) (by omega) hc).mpr z2
          refine h87 _ ?_
          rw [nI_1]
          refine ih _ hM e (told_step ht d1 d2 z3) (fun j hj1 => ?_)
          rcases hj j hj1 with ⟨d', q1, q2, q3⟩ | ⟨q1, q2⟩
          · exact Or.inl ⟨d', by omega, q2, q3⟩
          · refine Or.inr ⟨fun d' hd' => ?_, q2⟩
            rcases Nat.lt_succ_iff_lt_or_eq.mp hd' with q | q
            · exact q1 d' q
            · subst q
              intro z4
              exact q1 d d1 (d2.trans z4)
        · refine h0 (fun y => z ?_) M1 hM (fin e hj (by omega))
          have := y d (by omega) c hc d2
          rw [(so_eq h.1.2.2.1 hl (c := d) (d := c) (by omega) hc).mp this]
      · rw [d2, nI_shr (by omega) (by omega), Nat.shiftRight_eq_div_pow]
        refine br_f (fun z => ?_) ⟨vin ha (by omega), ?_⟩
        · have := (nI_eq (by omega) (by omega)).mp z
          omega
        · rintro M2 rfl
          refine h87 _ ?_
          rw [nI_1]
          refine ih _ (fun k j k1 k2 => by rw [up_of _ _ _ _ k2]; exact hM k j k1 k2) (by rw [up_of _ _ _ _ (by omega)]; exact e) (told_new ht d1) (fun j hj1 => ?_)
          rw [up_at]
          by_cases e4 : j = ansA A c &&& s
          · rw [if_pos e4]; exact Or.inl ⟨c, by omega, e4.symm, hy⟩
          · rw [if_neg e4]
            rcases hj j hj1 with ⟨d', q1, q2, q3⟩ | ⟨q1, q2⟩
            · exact Or.inl ⟨d', by omega, q2, q3⟩
            · refine Or.inr ⟨fun d' hd' => ?_, q2⟩
              rcases Nat.lt_succ_iff_lt_or_eq.mp hd' with q | q
              · exact q1 d' q
              · subst q; exact fun z => e4 z.symm
  refine main 0 (Nat.zero_le _) _ (fun k j k1 k2 => ?_) ?_ (fun c hc => absurd hc (Nat.not_lt_zero c)) (fun j hj => Or.inr ⟨fun d hd => absurd hd (Nat.not_lt_zero d), ?_⟩)
  · by_cases e : k = 9
    · subst e
      rw [up_at, if_neg (fun z => k1 ⟨rfl, z⟩)]
    · rw [up_of _ _ _ _ e]
  · rw [up_at, if_pos rfl, m1, nI_1]
  · rw [up_of _ _ _ _ (by omega)]
    obtain ⟨v, v1, v2⟩ := m3 j hj
    exact ⟨v, v1, v2⟩
theorem MkOK.mono {M : jM} {B B' : Nat} (h : MkOK M B) (hb : B ≤ B') : MkOK M B' := by
  obtain ⟨m, m1, m2, m3⟩ := h
  exact ⟨m, m1, by omega, m3⟩
theorem mN_le {A : aS} (h : wfA A) (s : Nat) : mN A s ≤ 990 := by
  have h6 := h.1
  unfold wfNum at h6
  have m := mS_le h.2.2.2.2.1 s (A.1 3) (by omega)
  show sumN (mF A s) (A.1 3) ≤ 990
  omega
def pageC (A : aS) (b : Int32) (s : Nat) : Prop := b = -1 ∨ mN A s < mN A b.toNatClampNeg ∨ (mN A s = mN A b.toNatClampNeg ∧ befI (nI s) b)
noncomputable def pageF (A : aS) (l : Nat) : Nat → Int32
  | 0 => -1
  | s + 1 => @ite _ (pageC A (pageF A l s) s ∧ toldP A l s (2 ^ A.1 0)) (Classical.propDecidable _) (nI s) (pageF A l s)
theorem pageF_t {A : aS} {l s : Nat} (h : pageC A (pageF A l s) s ∧ toldP A l s (2 ^ A.1 0)) : pageF A l (s + 1) = nI s := @if_pos _ _ h _ _ _
theorem pageF_f {A : aS} {l s : Nat} (h : ¬ (pageC A (pageF A l s) s ∧ toldP A l s (2 ^ A.1 0))) : pageF A l (s + 1) = pageF A l s := @if_neg _ _ h _ _ _
theorem pageF_or (A : aS) (l : Nat) : ∀ s, pageF A l s = -1 ∨ ∃ b, b < s ∧ pageF A l s = nI b
  | 0 => Or.inl rfl
  | s + 1 => by
    by_cases h : pageC A (pageF A l s) s ∧ toldP A l s (2 ^ A.1 0)
    · exact Or.inr ⟨s, by omega, pageF_t h⟩
    · rw [pageF_f h]
      rcases pageF_or A l s with e | ⟨b, hb, e⟩
      · exact Or.inl e
      · exact Or.inr ⟨b, by omega, e⟩
noncomputable def pageS (A : aS) (a : Int32) : Int32 := if okL A a then pageF A a.toNatClampNeg (2 ^ A.1 3) else -1
theorem s12_page {P : jP} {M : jM} {A : aS} (h : RelM M A) {a : Int32} {Q : Int32 → jM → Prop} (hq : ∀ M', RelM M' A → Q (pageS A a) M') : w_X12_page P a M Q := by
  unfold w_X12_page
  have h0 := h.thr 0
  generalize upM M 1 0 0 = M0 at h0 ⊢
  refine s12_isLaw h0 (br_j (fun hl => ?_) (fun hn => ?_))
  · rw [pageS, if_pos hl] at hq
    obtain ⟨l, hl1, hl2, rfl⟩ := okL_of h0 hl
    rw [nI_clamp (show l < 2 ^ 31 by omega)] at hq
    have h6 := h0.num
    unfold wfNum at h6
    have hp := pow_q h0.1
    intro R hR
    refine lp_up (R := fun s => ∀ M', RelM M' A → R (pageF A l s) (nI s) M') (2 ^ A.1 3) ?_ ?_ 0 (Nat.zero_le _) M0 h0
    · intro M1 h1
      refine hR _ _ _ ?_
      rw [h1.qs, shl1 (by omega)]
      exact br_t (nI_le (Nat.le_refl _) (by omega)) (hq M1 h1)
    · intro s hs ih M1 h1
      refine hR _ _ _ ?_
      rw [h1.qs, shl1 (by omega)]
      refine br_f (nI_ge hs (by omega)) ?_
      intro R49 h49
      have mid : ∀ x : Int32, ((x < 0 → ¬ pageC A (pageF A l s) s → False) ∧ (¬ x < 0 → ¬ x = 0 → ¬ pageC A (pageF A l s) s) ∧ (x = 0 → (pageC A (pageF A l s) s ↔ befI (nI s) (pageF A l s)))) → R49 x := by
        intro x hx
        refine h49 x ?_
        intro R80 h80 R69 h69
        have keep : ∀ M', RelM M' A → pageF A l (s + 1) = pageF A l s → R80 (pageF A l s) M' := fun M' h' e => h80 _ _ (by rw [nI_1, ← e]; exact ih M' h')
        have take : ∀ M', RelM M' A → pageF A l (s + 1) = nI s → R80 (nI s) M' := fun M' h' e => h80 _ _ (by rw [nI_1, ← e]; exact ih M' h')
        have try' : pageC A (pageF A l s) s → R69 := fun hc => h69 (s12_isTold h1 hl1 (by omega) (fun ht M' h' => br_f (by decide) (take M' h' (pageF_t ⟨hc, ht⟩))) (fun ht M' h' => br_t rfl (keep M' h' (pageF_f (fun z => ht z.2)))))
        refine br_c (fun z => try' (Classical.byContradiction fun q => hx.1 z q)) (fun z => bn_c (fun z2 => keep M1 h1 (pageF_f (fun q => hx.2.1 z z2 q.1))) (fun z2 => s12_isBefore (fun hb => br_f (by decide) (try' ((hx.2.2 z2).mpr hb))) (fun hb => br_t rfl (keep M1 h1 (pageF_f (fun q => hb ((hx.2.2 z2).mp q.1)))))))
      rcases pageF_or A l s with e | ⟨b, hb, e⟩
      · refine bn_t e (mid _ ⟨fun _ z => z (Or.inl e), fun z => absurd (by decide) z, fun z => absurd z (by decide)⟩)
      · have m1 := mN_le h1.1 s
        have m2 := mN_le h1.1 b
        have e1 : ¬ nI b = -1 := nI_ne1 (by omega)
        have c0 : pageC A (pageF A l s) s ↔ (mN A s < mN A b ∨ (mN A s = mN A b ∧ befI (nI s) (pageF A l s))) := by
          unfold pageC
          rw [e, nI_clamp (by omega)]
          exact ⟨fun z => z.resolve_left e1, Or.inr⟩
        have i1 : nI (mN A s) - nI (mN A b) < 0 ↔ mN A s < mN A b := by
          have := nI_sub_lt (a := mN A s) (b := mN A b) (k := 0) (by omega) (by omega) (by omega)
          exact this
        have i2 : nI (mN A s) - nI (mN A b) = 0 ↔ mN A s = mN A b := by
          rw [← Int32.toInt_inj, pk_sub_toInt (by omega) (by omega), Int32.toInt_zero]
          omega
        refine bn_f (by rw [e]; exact e1) (s12_minutesOf h1 (by omega) ?_)
        have hmid := mid (nI (mN A s) - nI (mN A b)) (by
          rw [i1, i2, c0]
          refine ⟨fun z q => q (Or.inl z), fun z z2 q => ?_, fun z => ?_⟩
          · rcases q with q | q
            · exact z q
            · exact z2 q.1
          · exact ⟨fun q => q.elim (fun w => by omega) (fun w => w.2), fun q => Or.inr ⟨z, q⟩⟩)
        rw [e]
        exact s12_minutesOf h1 (by omega) hmid
  · have hq := hq M0 h0
    rw [pageS, if_neg hn] at hq; exact hq
theorem s11_page {P : jP} {M : jM} {A : aS} {B : Nat} (h : RelC P M A) (hm : MkOK M B) (hB : B + 1024 < 2 ^ 26) {a : Int32} {Q : Int32 → jM → Prop} (hq : ∀ M', agM M M' → MkOK M' (B + 1024) → Q (pageS A a) M') : w_X11_page P a M Q := by
  unfold w_X11_page
  refine s11_lawAt h (fun hn => ⟨fun z => absurd rfl z, fun _ => ?_⟩) (fun l hl el => ⟨fun _ => ⟨h.lw hl, ?_⟩, fun z => absurd z (by omega)⟩)
  · have hq := hq M (fun _ _ _ _ => rfl) (hm.mono (by omega))
    rw [pageS, if_neg hn] at hq; exact hq
  · subst el
    have ol := okL_mk (M := M) h.1 hl
    rw [pageS, if_pos ol.1, nI_clamp (by omega)] at hq
    have h6 := h.num
    unfold wfNum at h6
    have hp := pow_q h.1
    unfold w_X6_cheapestThatTells
    intro R hR
    have main : ∀ s, s ≤ 2 ^ A.1 3 → ∀ M', agM M M' → MkOK M' (B + s) → ∀ x2, (pageF A l s = -1 ∨ x2 = nI (mN A (pageF A l s).toNatClampNeg)) → R (pageF A l s) x2 (nI s) M' := by
      refine fun s hs => lp_up (R := fun s => ∀ M', agM M M' → MkOK M' (B + s) → ∀ x2, (pageF A l s = -1 ∨ x2 = nI (mN A (pageF A l s).toNatClampNeg)) → R (pageF A l s) x2 (nI s) M') (2 ^ A.1 3) ?_ ?_ s hs
      · intro M1 h1 k1 x2 hx2
        refine hR _ _ _ _ ?_
        rw [(h.kM h1).qn, shl1 (by omega)]
        exact br_t (nI_le (Nat.le_refl _) (by omega)) (hq M1 h1 (k1.mono (by omega)))
      · intro s hs ih M1 h1 k1 x2 hx2
        refine hR _ _ _ _ ?_
        have hr := h.kM h1
        rw [hr.qn, shl1 (by omega)]
        refine br_f (nI_ge hs (by omega)) (s11_minutesOf hr (by omega) ?_)
        intro R57 h57
        have keep : ∀ M', agM M1 M' → MkOK M' (B + (s + 1)) → pageF A l (s + 1) = pageF A l s → R (pageF A l s) x2 (nI s + 1) M' := fun M' h' k' e => by
          rw [nI_1, ← e]
          exact ih M' (fun k j a b => (h' k j a b).trans (h1 k j a b)) k' x2 (by rw [e]; exact hx2)
        have no : ¬ pageC A (pageF A l s) s → R57 0 := fun hc => h57 _ (by
          intro R80 h80
          exact br_t rfl (h80 _ _ _ (keep M1 (fun _ _ _ _ => rfl) (k1.mono (by omega)) (pageF_f (fun q => hc q.1)))))
        have yes : pageC A (pageF A l s) s → R57 1 := fun hc => h57 _ (by
          intro R80 h80
          refine br_f (by decide) (s11_isToldBy hr k1 (by omega) hl (by omega) (fun ht M' h' k' => br_f (by decide) (h80 _ _ _ ?_)) (fun ht M' h' k' => br_t rfl (h80 _ _ _ (keep M' h' k' (pageF_f (fun q => ht q.2))))))
          have e := pageF_t (A := A) (l := l) ⟨hc, ht⟩
          rw [nI_1, ← e]
          refine ih M' (fun k j a b => (h' k j a b).trans (h1 k j a b)) k' _ (Or.inr ?_)
          rw [e, nI_clamp (show s < 2 ^ 31 by omega)])
        rcases pageF_or A l s with e | ⟨b, hb, e⟩
        · exact br_t e (yes (Or.inl e))
        · have m1 := mN_le hr.1 s
          have m2 := mN_le hr.1 b
          have e1 : ¬ nI b = -1 := nI_ne1 (by omega)
          have c0 : pageC A (pageF A l s) s ↔ (mN A s < mN A b ∨ (mN A s = mN A b ∧ befI (nI s) (pageF A l s))) := by
            unfold pageC
            rw [e, nI_clamp (by omega)]
            exact ⟨fun z => z.resolve_left e1, Or.inr⟩
          have ex : x2 = nI (mN A b) := by
            rcases hx2 with z | z
            · exact absurd (e.symm.trans z) e1
            · rw [z, e, nI_clamp (by omega)]
          refine br_f (by rw [e]; exact e1) ?_
          rw [ex, nI_ltI (by omega) (by omega), nI_eq (by omega) (by omega)]
          refine br_c (fun z => yes (c0.mpr (Or.inl z))) (fun z => bn_c (fun z2 => no (fun q => (c0.mp q).elim z (fun w => z2 w.1))) (fun z2 => s11_isAhead (fun w => br_f (by decide) (yes (c0.mpr (Or.inr ⟨z2, w.resolve_left (by rw [e]; exact e1)⟩)))) (fun w => br_t rfl (no (fun q => (c0.mp q).elim z (fun y => w (Or.inr y.2)))))))
    exact main 0 (Nat.zero_le _) M (fun _ _ _ _ => rfl) hm 0 (Or.inl rfl)
