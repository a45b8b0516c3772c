/-! page: both sides -/
def mF (A : aS) (s : Nat) (q : Nat) : Nat := if s.testBit q = true then (A.2 13 q).toNatClampNeg else 0
abbrev mN (A : aS) (s : Nat) : Nat := sumN (mF A s) (A.1 3)
theorem mF_le {A : aS} (h : wfSet A) (s : Nat) {q : Nat} (hq : q < 10) : mF A s q ≤ 99 := by
  obtain ⟨m, h1, h2, h3⟩ := h.2.1 q hq
  unfold mF
  split
  · rw [h3, nI_clamp (by omega)]; exact h2
  · omega
theorem mS_le {A : aS} (h : wfSet A) (s : Nat) : ∀ n, n ≤ 10 → sumN (mF A s) n ≤ 99 * n
  | 0, _ => Nat.le_refl 0
  | n + 1, hn => by
    have := mS_le h s n (by omega)
    have := mF_le h s (q := n) (by omega)
    show sumN (mF A s) n + mF A s n ≤ _
    omega
theorem s12_minutesOf {P : jP} {M : jM} {A : aS} (h : RelM M A) {s : Nat} (hs : s < 1024) {Q : Int32 → Prop} (hq : Q (nI (mN A s))) : w_X12_minutesOf P (nI s) M Q := by
  have h6 := h.num
  unfold wfNum at h6
  unfold w_X12_minutesOf
  rw [h.qs]
  intro R hR
  refine lp_up (R := fun q => R (nI (sumN (mF A s) q)) (nI q)) (A.1 3) (hR _ _ (br_t (nI_le (Nat.le_refl _) (by omega)) hq)) ?_ 0 (Nat.zero_le _)
  intro q hq2 ih
  refine hR _ _ (br_f (nI_ge hq2 (by omega)) (s12_has (by omega) (by omega) ?_))
  intro R31 h31
  obtain ⟨m, m1, m2, m3⟩ := h.1.2.2.2.2.1.2.1 q (by omega)
  have step : sumN (mF A s) (q + 1) = sumN (mF A s) q + mF A s q := rfl
  refine br_i (fun z => h31 _ ?_) (fun z => ⟨vin (by omega) (by omega), h31 _ ?_⟩)
  · rw [step, mF, if_neg z] at ih
    rw [show (0 : Int32) = nI 0 from rfl, nI_add, nI_1]
    exact ih
  · rw [step, mF, if_pos z, m3, nI_clamp (by omega)] at ih
    rw [nI_clamp (by omega), h.row (by omega), m3, nI_add, nI_1]
    exact ih
theorem s11_minutesOf {P : jP} {M : jM} {A : aS} (h : RelC P M A) {s : Nat} (hs : s < 1024) {Q : Int32 → Prop} (hq : Q (nI (mN A s))) : w_X6_minutesOf P (nI s) M Q := by
  have h6 := h.num
  unfold wfNum at h6
  unfold w_X6_minutesOf
  rw [h.qn]
  intro R hR
  refine lp_up (R := fun q => R (nI (sumN (mF A s) q)) (nI q)) (A.1 3) (hR _ _ (br_t (nI_le (Nat.le_refl _) (by omega)) hq)) ?_ 0 (Nat.zero_le _)
  intro q hq2 ih
  refine hR _ _ (br_f (nI_ge hq2 (by omega)) ?_)
  intro R29 h29
  obtain ⟨m, m1, m2, m3⟩ := h.1.2.2.2.2.1.2.1 q (by omega)
  have step : sumN (mF A s) (q + 1) = sumN (mF A s) q + mF A s q := rfl
  rw [bit1_0 (by omega) (by omega)]
  refine br_c (fun z => h29 _ ?_) (fun z => ⟨vin (by omega) (by omega), h29 _ ?_⟩)
  · rw [step, mF, if_neg z, Nat.add_zero] at ih
    rw [nI_1]
    exact ih
  · have z : s.testBit q = true := Classical.byContradiction z
    rw [step, mF, if_pos z, m3, nI_clamp (by omega)] at ih
    have e : M 38 q = A.2 13 q := h.2.2.1 38 q hq2
    rw [nI_clamp (by omega), e, m3, nI_add, nI_1]
    exact ih
/-- the answers to a set tell what is said, on the cases below n -/
def toldP (A : aS) (l s n : Nat) : Prop := ∀ c, c < n → ∀ d, d < n → ansA A c &&& s = ansA A d &&& s → sdA A l c = sdA A l d
theorem told_step {A : aS} {l s n d : Nat} (h : toldP A l s n) (hd : d < n) (e1 : ansA A d &&& s = ansA A n &&& s) (e2 : sdA A l d = sdA A l n) : toldP A l s (n + 1) := by
  have key : ∀ c, c < n → ansA A c &&& s = ansA A n &&& s → sdA A l c = sdA A l n := fun c hc e => (h c hc d hd (e.trans e1.symm)).trans e2
  intro a ha b hb e
  rcases Nat.lt_succ_iff_lt_or_eq.mp ha with h1 | h1 <;> rcases Nat.lt_succ_iff_lt_or_eq.mp hb with h2 | h2
  · exact h a h1 b h2 e
  · subst h2; exact key a h1 e
  · subst h1; exact (key b h2 e.symm).symm
  · subst h1; subst h2; rfl
theorem told_new {A : aS} {l s n : Nat} (h : toldP A l s n) (hn : ∀ d, d < n → ansA A d &&& s ≠ ansA A n &&& s) : toldP A l s (n + 1) := by
  intro a ha b hb e
  rcases Nat.lt_succ_iff_lt_or_eq.mp ha with h1 | h1 <;> rcases Nat.lt_succ_iff_lt_or_eq.mp hb with h2 | h2
  · exact h a h1 b h2 e
  · subst h2; exact absurd e (hn a h1)
  · subst h1; exact absurd e.symm (hn b h2)
  · subst h1; subst h2; rfl
theorem s12_isTold {P : jP} {M : jM} {A : aS} (h : RelM M A) {l s : Nat} (hl : l < A.1 2) (hs : s < 1024) {Q : Int32 → jM → Prop} (h1 : toldP A l s (2 ^ A.1 0) → ∀ M', RelM M' A → Q 1 M') (h0 : ¬ toldP A l s (2 ^ A.1 0) → ∀ M', RelM M' A → Q 0 M') : w_X12_isTold P (nI l) (nI s) M Q := by
  have h6 := h.num
  unfold wfNum at h6
  have hC := h.C512
  have up23 : ∀ {M' : jM} (j : Nat) (v : Int32), RelM M' A → RelM (upM M' 23 j v) A := fun j v z => z.up v (by unfold pA; omega)
  unfold w_X12_isTold
  intro R2 h2
  have main : ∀ k, k ≤ 1024 → ∀ M', RelM M' A → (∀ j, j < k → M' 23 j = -2) → R2 (nI k) M' := by
    refine fun k hk => lp_up (R := fun k => ∀ M', RelM M' A → (∀ j, j < k → M' 23 j = -2) → R2 (nI k) M') 1024 ?_ ?_ k hk
    · intro M1 hr hz
      refine h2 _ _ (br_t (nI_le (a := 1024) (Nat.le_refl _) (by omega)) ?_)
      intro R25 h25
      have go : ∀ c, c ≤ 2 ^ A.1 0 → ∀ M', RelM M' A → toldP A l s c → (∀ j, j < 1024 → (∃ d, d < c ∧ ansA A d &&& s = j ∧ M' 23 j = sdA A l d) ∨ ((∀ d, d < c → ansA A d &&& s ≠ j) ∧ M' 23 j = -2)) → R25 (nI c) M' := by
        refine fun c hc => lp_up (R := fun c => ∀ M', RelM M' A → toldP A l s c → (∀ j, j < 1024 → (∃ d, d < c ∧ ansA A d &&& s = j ∧ M' 23 j = sdA A l d) ∨ ((∀ d, d < c → ansA A d &&& s ≠ j) ∧ M' 23 j = -2)) → R25 (nI c) M') (2 ^ A.1 0) ?_ ?_ c hc
        · intro M2 hr2 ht hj
          exact h25 _ _ (by rw [hr2.cases]; exact br_t (nI_le (Nat.le_refl _) (by omega)) (h1 ht M2 hr2))
        · intro c hc ih M2 hr2 ht hj
          refine h25 _ _ ?_
          rw [hr2.cases]
          have ha := and_lt1024 (b := s) (ansA_lt hr2.1 c)
          refine br_f (nI_ge hc (by omega)) (s12_answersOf hr2 hs hc ⟨vin (by omega) (by omega), ?_⟩)
          intro R71 h71
          rw [nI_clamp (show ansA A c &&& s < 2 ^ 31 by omega)]
          have put : toldP A l s (c + 1) → R71 := fun ht2 => h71 (s12_saidOn hr2 (by omega) (by omega) ⟨vin (by omega) (by omega), by
            rw [nI_1]
            refine ih _ (up23 _ _ hr2) ht2 (fun j hj1 => ?_)
            rw [up_at, nI_clamp (show ansA A c &&& s < 2 ^ 31 by omega)]
            by_cases e : j = ansA A c &&& s
            · rw [if_pos e]; exact Or.inl ⟨c, by omega, e.symm, rfl⟩
            · rw [if_neg e]
              rcases hj j hj1 with ⟨d, d1, d2, d3⟩ | ⟨d1, d2⟩
              · exact Or.inl ⟨d, by omega, d2, d3⟩
              · refine Or.inr ⟨fun d hd => ?_, d2⟩
                rcases Nat.lt_succ_iff_lt_or_eq.mp hd with q | q
                · exact d1 d q
                · subst q; exact fun z => e z.symm⟩)
          rcases hj _ ha with ⟨d, d1, d2, d3⟩ | ⟨d1, d2⟩
          · rw [d3]
            refine br_f (sd_ne2 hr2.1.2.2.1 hl (by omega)) ⟨vin (by omega) (by omega), s12_saidOn hr2 (by omega) (by omega) (br_c (fun e => put (told_step ht d1 d2 e)) (fun e => h0 (fun z => e (z d (by omega) c hc d2)) M2 hr2))⟩
          · exact br_t d2 (put (told_new ht d1))
      exact go 0 (Nat.zero_le _) M1 hr (fun c hc => absurd hc (Nat.not_lt_zero c)) (fun j hj => Or.inr ⟨fun d hd => absurd hd (Nat.not_lt_zero d), hz j hj⟩)
    · intro k hk ih M1 hr hz
      refine h2 _ _ (br_f (nI_ge (b := 1024) hk (by omega)) ⟨vin hk (by omega), ?_⟩)
      rw [nI_clamp (show k < 2 ^ 31 by omega), nI_1]
      refine ih _ (up23 _ _ hr) (fun j hj => ?_)
      rw [up_at]
      by_cases e : j = k
      · rw [if_pos e]
      · rw [if_neg e]; exact hz j (by omega)
  exact main 0 (Nat.zero_le _) M h (fun j hj => absurd hj (Nat.not_lt_zero j))
/-! the class's marks -/
def MkOK (M : jM) (B : Nat) : Prop := ∃ m, M 9 6 = nI m ∧ m ≤ B ∧ ∀ j, j < 1024 → ∃ v, M 40 j = nI v ∧ v < 8 * (m + 1)
abbrev agM (M M' : jM) : Prop := ∀ k j, ¬ (k = 9 ∧ j = 6) → k ≠ 40 → M' k j = M k j
theorem RelC.kM {P : jP} {M M' : jM} {A : aS} (h : RelC P M A) (hM : agM M M') : RelC P M' A :=
  h.agree (fun k j hj => hM k j (by rintro ⟨rfl, rfl⟩; exact absurd hj (by show ¬ (6 = 0); omega)) (by rintro rfl; exact hj)) (fun k j hj => by have := pCd_ge hj; exact hM k j (by omega) (by omega))
theorem s11_isToldBy {P : jP} {M : jM} {A : aS} {B : Nat} (h : RelC P M A) (hm : MkOK M B) (hB : B < 2 ^ 26) {l s : Nat} (hl : l < A.1 2) (hs : s < 1024) {Q : Int32 → jM → Prop} (h1 : toldP A l s (2 ^ A.1 0) → ∀ M', agM M M' → MkOK M' (B + 1) → Q 1 M') (h0 : ¬ toldP A l s (2 ^ A.1 0) → ∀ M', agM M M' → MkOK M' (B + 1) → Q 0 M') : w_X6_isToldBy P (nI s) (64 + 8 * l + 3) M Q := by
  have hC := h.C512
  obtain ⟨m, m1, m2, m3⟩ := hm
  unfold w_X6_isToldBy
  rw [h.z1]
  intro R hR
  have fin : ∀ {c : Nat} {M' : jM}, M' 9 6 = nI (m + 1) → (∀ j, j < 1024 → (∃ d, d < c ∧ ansA A d &&& s = j ∧ M' 40 j = nI (8 * (m + 1) + soN A l d)) ∨ ((∀ d, d < c → ansA A d &&& s ≠ j) ∧ ∃ v, M' 40 j = nI v ∧ v < 8 * (m + 1))) → c ≤ 2 ^ A.1 0 → MkOK M' (B + 1) := by
    intro c M' e hj hc
    refine ⟨m + 1, e, by omega, fun j hj1 => ?_⟩
    rcases hj j hj1 with ⟨d, d1, d2, d3⟩ | ⟨d1, v, d2, d3⟩
    · exact ⟨_, d3, by have := (so_ok h.1.2.2.1 hl (c := d) (by omega)).2; omega⟩
    · exact ⟨v, d2, by omega⟩
  have main : ∀ c, c ≤ 2 ^ A.1 0 → ∀ M', agM M M' → M' 9 6 = nI (m + 1) → toldP A l s c → (∀ j, j < 1024 → (∃ d, d < c ∧ ansA A d &&& s = j ∧ M' 40 j = nI (8 * (m + 1) + soN A l d)) ∨ ((∀ d, d < c → ansA A d &&& s ≠ j) ∧ ∃ v, M' 40 j = nI v ∧ v < 8 * (m + 1))) → R (nI c) M' := by
    refine fun c hc => lp_up (R := fun c => ∀ M', agM M M' → M' 9 6 = nI (m + 1) → toldP A l s c → (∀ j, j < 1024 → (∃ d, d < c ∧ ansA A d &&& s = j ∧ M' 40 j = nI (8 * (m + 1) + soN A l d)) ∨ ((∀ d, d < c → ansA A d &&& s ≠ j) ∧ ∃ v, M' 40 j = nI v ∧ v < 8 * (m + 1))) → R (nI c) M') (2 ^ A.1 0) ?_ ?_ c hc
    · intro M1 hM e ht hj
      exact hR _ _ (br_t (nI_le (Nat.le_refl _) (by omega)) (h1 ht M1 hM (fin e hj (Nat.le_refl _))))
    · intro c hc ih M1 hM e ht hj
      have hr := h.kM hM
      have ha := and_lt1024 (b := s) (ansA_lt h.1 c)
      obtain ⟨so1, so2⟩ := so_ok h.1.2.2.1 hl hc
      refine hR _ _ (br_f (nI_ge hc (by omega)) ⟨jin_of (h.ia hl).2.2.1 hc (by omega), ?_⟩)
      intro y hy
      have eor : (m + 1) <<< 3 ||| soN A l c = 8 * (m + 1) + soN A l c := by
        rw [← Nat.shiftLeft_add_eq_or_of_lt (show soN A l c < 2 ^ 3 by omega), Nat.shiftLeft_eq]
        omega
      rw [nI_clamp (show c < 2 ^ 31 by omega), hr.said hl hc, so1, e, show (3 : Int32) = nI 3 from rfl, nI_shl _ (by omega), nI_or, eor] at hy
      rw [nI_clamp (show c < 2 ^ 31 by omega), hr.ans hc, nI_and]
      refine ⟨vin hc (by omega), vin ha (by omega), ?_⟩
      intro R87 h87
      rw [nI_clamp (show ansA A c &&& s < 2 ^ 31 by omega), e, show (3 : Int32) = nI 3 from rfl]
      rcases hj _ ha with ⟨d, d1, d2, d3⟩ | ⟨d1, v, d2, d3⟩
      · obtain ⟨sd1, sd2⟩ := so_ok h.1.2.2.1 hl (c := d) (by omega)
        rw [d3, nI_shr (by omega) (by omega), Nat.shiftRight_eq_div_pow, hy]
        refine br_t (congrArg nI (by omega)) ⟨vin ha (by omega), br_c (fun z => ?_) (fun z => ?_)⟩
        · have z2 : soN A l d = soN A l c := by
            have := (nI_eq (by omega) (by omega)).mp z
            omega
          have z3 := (so_eq h.1.2.2.1 hl (c := d) (d := c) (by omega) hc).mpr z2
          refine h87 _ ?_
          rw [nI_1]
          refine ih _ hM e (told_step ht d1 d2 z3) (fun j hj1 => ?_)
          rcases hj j hj1 with ⟨d', q1, q2, q3⟩ | ⟨q1, q2⟩
          · exact Or.inl ⟨d', by omega, q2, q3⟩
          · refine Or.inr ⟨fun d' hd' => ?_, q2⟩
            rcases Nat.lt_succ_iff_lt_or_eq.mp hd' with q | q
            · exact q1 d' q
            · subst q
              intro z4
              exact q1 d d1 (d2.trans z4)
        · refine h0 (fun y => z ?_) M1 hM (fin e hj (by omega))
          have := y d (by omega) c hc d2
          rw [(so_eq h.1.2.2.1 hl (c := d) (d := c) (by omega) hc).mp this]
      · rw [d2, nI_shr (by omega) (by omega), Nat.shiftRight_eq_div_pow]
        refine br_f (fun z => ?_) ⟨vin ha (by omega), ?_⟩
        · have := (nI_eq (by omega) (by omega)).mp z
          omega
        · rintro M2 rfl
          refine h87 _ ?_
          rw [nI_1]
          refine ih _ (fun k j k1 k2 => by rw [up_of _ _ _ _ k2]; exact hM k j k1 k2) (by rw [up_of _ _ _ _ (by omega)]; exact e) (told_new ht d1) (fun j hj1 => ?_)
          rw [up_at]
          by_cases e4 : j = ansA A c &&& s
          · rw [if_pos e4]; exact Or.inl ⟨c, by omega, e4.symm, hy⟩
          · rw [if_neg e4]
            rcases hj j hj1 with ⟨d', q1, q2, q3⟩ | ⟨q1, q2⟩
            · exact Or.inl ⟨d', by omega, q2, q3⟩
            · refine Or.inr ⟨fun d' hd' => ?_, q2⟩
              rcases Nat.lt_succ_iff_lt_or_eq.mp hd' with q | q
              · exact q1 d' q
              · subst q; exact fun z => e4 z.symm
  refine main 0 (Nat.zero_le _) _ (fun k j k1 k2 => ?_) ?_ (fun c hc => absurd hc (Nat.not_lt_zero c)) (fun j hj => Or.inr ⟨fun d hd => absurd hd (Nat.not_lt_zero d), ?_⟩)
  · by_cases e : k = 9
    · subst e
      rw [up_at, if_neg (fun z => k1 ⟨rfl, z⟩)]
    · rw [up_of _ _ _ _ e]
  · rw [up_at, if_pos rfl, m1, nI_1]
  · rw [up_of _ _ _ _ (by omega)]
    obtain ⟨v, v1, v2⟩ := m3 j hj
    exact ⟨v, v1, v2⟩
