/-! asking out: the reference -/
theorem ix_state {kn so : Nat} (hs : so < 512) : (nI kn <<< ((9 : Int32) &&& 31)) ||| nI so = nI (512 * kn + so) := by
  rw [show (9 : Int32) = nI 9 from rfl, nI_shl kn (by omega), nI_or]
  congr 1
  rw [Nat.shiftLeft_eq, show kn * 2 ^ 9 = 2 ^ 9 * kn by omega, ← Nat.two_pow_add_eq_or_of_lt (show so < 2 ^ 9 by omega) kn]
theorem s12_state {P : jP} {kn so : Nat} (hs : so < 512) {Q : Int32 → Prop} (hq : Q (nI (512 * kn + so))) : w_X12_state P (nI kn) (nI so) Q := by
  unfold w_X12_state
  rw [ix_state hs]
  exact hq
theorem jinM_of {k i : Nat} (hk : k = 19 ∨ k = 20) (hi : i < 262144) : jinM k (nI i) := by
  rcases hk with rfl | rfl <;> exact ⟨262144, rfl, vin hi (by omega)⟩
theorem s12_joined {P : jP} {M : jM} {k kn so f : Nat} (hk : k = 19 ∨ k = 20) (h1 : kn ||| 2 ^ f < 512) (h2 : so < 512) (h3 : so ||| 2 ^ f < 512) (hf : f < 9) {Q : Int32 → Prop} (hq : Q (if M k (512 * (kn ||| 2 ^ f) + so) = M k (512 * (kn ||| 2 ^ f) + (so ||| 2 ^ f)) then M k (512 * (kn ||| 2 ^ f) + so) else -2)) : w_X12_joined P k (nI kn) (nI so) (nI f) M Q := by
  unfold w_X12_joined
  rw [shl1 (by omega), nI_or, nI_or]
  refine s12_state h2 ⟨jinM_of hk (by omega), s12_state h3 ⟨jinM_of hk (by omega), ?_⟩⟩
  rw [nI_clamp (by omega), nI_clamp (by omega)]
  refine bn_c (fun z => ?_) (fun z => ?_)
  · rw [if_neg z] at hq; exact hq
  · rw [if_pos z] at hq; exact hq
theorem s12_isOut {P : jP} {M : jM} {A : aS} {l o i kn so : Nat} {two : Bool} {x4 : Int32} (hx : x4 = 0 ↔ two = false) (hi : i < 262144) (e1 : M 19 i = sureV (sdA A l) (2 ^ A.1 0) kn so) (e2 : two = true → M 20 i = sureV (sdA A o) (2 ^ A.1 0) kn so) {Q : Int32 → Prop} (q1 : isO A l o two kn so = true → Q 1) (q0 : ¬ isO A l o two kn so = true → Q 0) : w_X12_isOut P (nI i) x4 M Q := by
  unfold w_X12_isOut
  unfold isO at q1 q0
  rw [nI_clamp (show i < 2 ^ 31 by omega), e1, hx]
  refine ⟨vin hi (by omega), br_c (fun z => q0 ?_) (fun z => br_c (fun z2 => q1 ?_) (fun z2 => ⟨vin hi (by omega), ?_⟩))⟩
  · rw [z]
    intro y
    simp at y
  · rw [z2, beq_eq_false_iff_ne.mpr z]; rfl
  · have t : two = true := by
      cases two with
      | false => exact absurd rfl z2
      | true => rfl
    rw [e2 t]
    refine br_c (fun z3 => q0 ?_) (fun z3 => q1 ?_)
    · rw [z3, t, beq_eq_false_iff_ne.mpr z]; decide
    · rw [beq_eq_false_iff_ne.mpr z3, t, beq_eq_false_iff_ne.mpr z]; rfl
theorem s12_meanBy {P : jP} {M : jM} {N : jN} {A : aS} (h : RelM M A) {kn so f no yes : Nat} (hk : kn < 2 ^ A.1 0) (hs : so < 2 ^ A.1 0) (hf : f < A.1 0) (b1 : no ≤ 1000000000000000) (b2 : yes ≤ 1000000000000000) (e1 : N 22 (512 * (kn ||| 2 ^ f) + so) = lN no) (e2 : N 22 (512 * (kn ||| 2 ^ f) + (so ||| 2 ^ f)) = lN yes) {Q : Int64 → Prop} (hq : Q (lN (mbyN (shR A kn so) (miA A f) no yes))) : w_X12_meanBy P (nI kn) (nI so) (nI f) M N Q := by
  have hC := h.C512
  have h9 := h.n9
  have hf2 : 2 ^ f < 2 ^ A.1 0 := Nat.pow_lt_pow_right (by omega) hf
  have k1 : kn ||| 2 ^ f < 2 ^ A.1 0 := Nat.or_lt_two_pow hk hf2
  have k2 : so ||| 2 ^ f < 2 ^ A.1 0 := Nat.or_lt_two_pow hs hf2
  unfold w_X12_meanBy
  rw [shl1 (by omega), nI_or, nI_or]
  refine s12_state (by omega) ⟨vin (by omega) (by omega), s12_state (by omega) ⟨vin (by omega) (by omega), ?_⟩⟩
  rw [nI_clamp (show 512 * (kn ||| 2 ^ f) + so < 2 ^ 31 by omega), nI_clamp (show 512 * (kn ||| 2 ^ f) + (so ||| 2 ^ f) < 2 ^ 31 by omega), e1, e2, lg_cmp_ge, lg_cmp_lt, show (1000000000000000 : Int64) = lN 1000000000000000 from rfl, pk_lLE (by omega) (by omega), pk_lLT (by omega) (by omega)]
  unfold mbyN at hq
  refine br_c (fun z => ?_) (fun z => br_c (fun z2 => s12_shareOf h (by omega) (by omega) ⟨vin (by omega) (by omega), ?_⟩) (fun z2 => ?_))
  · rw [if_pos (Or.inl z)] at hq; exact hq
  · rw [if_neg (by omega)] at hq
    have emi : M 12 f = nI (miA A f) := by
      rw [h.row (by omega)]
      exact (mbF_le h.1 (b := 0) hf).2
    have hmi : miA A f ≤ 99 := by
      have := (mbF_le h.1 (b := 2 ^ f) hf).1
      unfold mbF at this
      rw [Nat.testBit_two_pow, decide_eq_true rfl, if_pos rfl] at this
      exact this
    rw [nI_clamp (show f < 2 ^ 31 by omega), emi, nI_l (show miA A f < 2 ^ 31 by omega), (shR_le h.1).1, lN_mul, lN_add, lN_add]
    exact hq
  · rw [if_pos (by omega)] at hq; exact hq
theorem s12_worstBy {P : jP} {M : jM} {A : aS} (h : RelM M A) {kn so f no yes : Nat} (hk : kn < 2 ^ A.1 0) (hs : so < 2 ^ A.1 0) (hf : f < A.1 0) (b1 : no ≤ 1000000) (b2 : yes ≤ 1000000) (e1 : M 21 (512 * (kn ||| 2 ^ f) + so) = nI no) (e2 : M 21 (512 * (kn ||| 2 ^ f) + (so ||| 2 ^ f)) = nI yes) {Q : Int32 → Prop} (hq : Q (nI (wbyN (miA A f) no yes))) : w_X12_worstBy P (nI kn) (nI so) (nI f) M Q := by
  have hC := h.C512
  have h9 := h.n9
  have hf2 : 2 ^ f < 2 ^ A.1 0 := Nat.pow_lt_pow_right (by omega) hf
  have k1 : kn ||| 2 ^ f < 2 ^ A.1 0 := Nat.or_lt_two_pow hk hf2
  have k2 : so ||| 2 ^ f < 2 ^ A.1 0 := Nat.or_lt_two_pow hs hf2
  unfold w_X12_worstBy
  rw [shl1 (by omega), nI_or, nI_or]
  refine s12_state (by omega) ⟨vin (by omega) (by omega), s12_state (by omega) ⟨vin (by omega) (by omega), ?_⟩⟩
  rw [nI_clamp (show 512 * (kn ||| 2 ^ f) + so < 2 ^ 31 by omega), nI_clamp (show 512 * (kn ||| 2 ^ f) + (so ||| 2 ^ f) < 2 ^ 31 by omega), e1, e2, maxI (by omega) (by omega)]
  rintro y rfl
  unfold wbyN at hq
  rw [show (1000000 : Int32) = nI 1000000 from rfl, nI_ltI (show max no yes < 2 ^ 31 by omega) (by omega)]
  refine br_c (fun z => ⟨vin (by omega) (by omega), ?_⟩) (fun z => ?_)
  · rw [if_neg (by omega)] at hq
    have emi : M 12 f = nI (miA A f) := by
      rw [h.row (by omega)]
      exact (mbF_le h.1 (b := 0) hf).2
    rw [nI_clamp (show f < 2 ^ 31 by omega), emi, nI_add]
    exact hq
  · rw [if_pos (by omega)] at hq; exact hq
/-- a state's rows stand -/
def T12 (M : jM) (N : jN) (A : aS) (l o : Nat) (two : Bool) (kn so : Nat) : Prop := M 19 (512 * kn + so) = sureV (sdA A l) (2 ^ A.1 0) kn so ∧ (two = true → M 20 (512 * kn + so) = sureV (sdA A o) (2 ^ A.1 0) kn so) ∧ N 22 (512 * kn + so) = lN (meG A l o two kn so) ∧ M 21 (512 * kn + so) = nI (woG A l o two kn so)
/-- nothing else was written -/
def keepT (M M' : jM) (N N' : jN) (A : aS) (i : Nat) : Prop := RelM M' A ∧ ∀ j, j ≠ i → M' 19 j = M 19 j ∧ M' 20 j = M 20 j ∧ M' 21 j = M 21 j ∧ N' 22 j = N 22 j
theorem lowz_ok : ∀ kn, kn < 512 → ntzF (nI kn ^^^ (-1)) = nI (lowb (4095 ^^^ kn)) := by decide +kernel
theorem lowz_in : ∀ n, n < 10 → ∀ kn, kn < 2 ^ n → kn ≠ 2 ^ n - 1 → lowb (4095 ^^^ kn) < n ∧ kn.testBit (lowb (4095 ^^^ kn)) = false := by decide +kernel
theorem meG_le {A : aS} (h : wfA A) {l o : Nat} {two : Bool} {kn so : Nat} (hk : kn < 2 ^ A.1 0) (hsub : so &&& kn = so) : meG A l o two kn so ≤ 1000000000000000 ∧ woG A l o two kn so ≤ 1000000 ∧ (meG A l o two kn so = 1000000000000000 ↔ woG A l o two kn so = 1000000) := by
  have h9 := h.1.1.2
  obtain ⟨a, b, c⟩ := meN_le h (l := l) (o := o) (two := two) (A.1 0) kn so hk hsub
  have hsh := (shR_le h (kn := kn) (so := so)).2
  have h1 : 99 * A.1 0 * shR A kn so ≤ 891 * shR A kn so := Nat.mul_le_mul_right _ (by omega)
  refine ⟨?_, ?_, c h9⟩
  · show meN A l o two (A.1 0) kn so ≤ _
    omega
  · show woN A l o two (A.1 0) kn so ≤ _
    omega
theorem RelM.up21 {M : jM} {A : aS} (h : RelM M A) {k j : Nat} (hk : k = 19 ∨ k = 20 ∨ k = 21) (v : Int32) : RelM (upM M k j v) A := h.up v (by unfold pA; omega)
theorem s12_layState {P : jP} {M : jM} {N : jN} {A : aS} (h : RelM M A) {l o kn so : Nat} {two : Bool} {b : Int32} (hl : l < A.1 2) (hb : b = -1 ↔ two = false) (ho : two = true → o < A.1 2 ∧ b = nI o) (hdl : sdOK A l) (hdo : two = true → sdOK A o) (hk : kn < 2 ^ A.1 0) (hs : so < 2 ^ A.1 0) (hsub : so &&& kn = so) (ht : ∀ k s, kn < k → k < 2 ^ A.1 0 → s < 2 ^ A.1 0 → s &&& k = s → T12 M N A l o two k s) {Q : jM → jN → Prop} (hq : ∀ M' N', keepT M M' N N' A (512 * kn + so) → T12 M' N' A l o two kn so → Q M' N') : w_X12_layState P (nI l) b (nI kn) (nI so) M N Q := by
  have hC := h.C512
  have h9 := h.n9
  have h1n := h.n1
  have h6 := h.num
  unfold wfNum at h6
  have hp := Nat.two_pow_pos (A.1 0)
  have hi : 512 * kn + so < 262144 := by omega
  obtain ⟨me, we⟩ := meG_eq h9 hdl hdo hk hs hsub
  unfold w_X12_layState
  refine s12_state (by omega) ?_
  intro R19 h19
  have main : ∀ x4 : Int32, (x4 = 0 ↔ two = false) → R19 x4 := by
    intro x4 hx
    refine h19 x4 ?_
    intro R119 h119
    have rest : ∀ M5, RelM M5 A → (∀ j, j ≠ 512 * kn + so → M5 19 j = M 19 j ∧ M5 20 j = M 20 j) → (∀ j, M5 21 j = M 21 j) → M5 19 (512 * kn + so) = sureV (sdA A l) (2 ^ A.1 0) kn so → (two = true → M5 20 (512 * kn + so) = sureV (sdA A o) (2 ^ A.1 0) kn so) → R119 M5 := by
      intro M5 r5 k5 k21 e19 e20
      refine h119 M5 ?_
      have fin : ∀ (x9 : Int64) (x14 : Int32), x9 = lN (if isO A l o two kn so = true then 0 else 1000000000000000) → x14 = nI (if isO A l o two kn so = true then 0 else 1000000) → ∀ R172 : Int32 → jM → jN → Prop, (∀ (x16 : Int32) (M17 : jM) (N18 : jN), (((M17 1 1) ≤ x16 → (Q M17 N18)) ∧ (¬ (M17 1 1) ≤ x16 → (w_X12_isOut P (nI (512 * kn + so)) x4 M17 (fun r20 => (¬ r20 = 0 → (Q M17 N18)) ∧ (r20 = 0 → (w_X12_has P (nI kn) x16 (fun r24 => ∀ R266 : jM → jN → Prop, (∀ (M27 : jM) (N28 : jN), (R172 (x16 + 1) M27 N28) → R266 M27 N28) → (¬ r24 = 0 → (R266 M17 N18)) ∧ (r24 = 0 → (vp_in x16 (9) ∧ ((M17 15 x16.toNatClampNeg) = 0 → (vp_in (nI (512 * kn + so)) (262144) ∧ w_X12_meanBy P (nI kn) (nI so) x16 M17 N18 (fun r33 => vp_in (nI (512 * kn + so)) (262144) ∧ ∀ N37 : jN, N37 = upN N18 22 (nI (512 * kn + so)).toNatClampNeg (if r33 < (N18 22 (nI (512 * kn + so)).toNatClampNeg) then r33 else (N18 22 (nI (512 * kn + so)).toNatClampNeg)) → vp_in (nI (512 * kn + so)) (262144) ∧ w_X12_worstBy P (nI kn) (nI so) x16 M17 (fun r39 => vp_in (nI (512 * kn + so)) (262144) ∧ ∀ M43 : jM, M43 = upM M17 21 (nI (512 * kn + so)).toNatClampNeg (if r39 < (M17 21 (nI (512 * kn + so)).toNatClampNeg) then r39 else (M17 21 (nI (512 * kn + so)).toNatClampNeg)) → R266 M43 N37)))) ∧ (¬ (M17 15 x16.toNatClampNeg) = 0 → (R266 M17 N18))))))))))) → R172 x16 M17 N18) → R172 0 (upM M5 21 (nI (512 * kn + so)).toNatClampNeg x14) (upN N 22 (nI (512 * kn + so)).toNatClampNeg x9) := by
        intro x9 x14 e9 e14 R172 h172
        rw [nI_clamp (show 512 * kn + so < 2 ^ 31 by omega)] at h172 ⊢
        refine lp_up (R := fun f => ∀ M' N', keepT M M' N N' A (512 * kn + so) → (∀ j, M' 19 j = M5 19 j ∧ M' 20 j = M5 20 j) → N' 22 (512 * kn + so) = lN (if isO A l o two kn so = true then 0 else mnB 1000000000000000 (mbyA A l o two kn so) (opP A kn) f) → M' 21 (512 * kn + so) = nI (if isO A l o two kn so = true then 0 else mnB 1000000 (wbyA A l o two kn so) (opP A kn) f) → R172 (nI f) M' N') (A.1 0) ?_ ?_ 0 (Nat.zero_le _) _ _ ⟨r5.up21 (by omega) _, fun j hj => ⟨?_, ?_, ?_, ?_⟩⟩ (fun j => ⟨up_of _ _ _ _ (by omega), up_of _ _ _ _ (by omega)⟩) ?_ ?_
        · intro M' N' kt k19 en em
          refine h172 _ _ _ ?_
          rw [kt.1.facts]
          refine br_t (nI_le (Nat.le_refl _) (by omega)) (hq M' N' kt ⟨by rw [(k19 _).1]; exact e19, fun t => by rw [(k19 _).2]; exact e20 t, by rw [en, me], by rw [em, we]⟩)
        · intro f hf ihf M' N' kt k19 en em
          refine h172 _ _ _ ?_
          rw [kt.1.facts]
          refine br_f (nI_ge hf (by omega)) (s12_isOut hx hi (by rw [(k19 _).1]; exact e19) (fun t => by rw [(k19 _).2]; exact e20 t) (fun t => ⟨fun _ => hq M' N' kt ⟨by rw [(k19 _).1]; exact e19, fun t => by rw [(k19 _).2]; exact e20 t, ?_, ?_⟩, fun z => absurd z (by decide)⟩) (fun t => ⟨fun z => absurd rfl z, fun _ => s12_has (by omega) (by omega) ?_⟩))
          · rw [en, me, if_pos t, if_pos t]
          · rw [em, we, if_pos t, if_pos t]
          · rw [if_neg t] at en em
            intro R266 h266
            have go : ∀ M2 N2, keepT M M2 N N2 A (512 * kn + so) → (∀ j, M2 19 j = M5 19 j ∧ M2 20 j = M5 20 j) → N2 22 (512 * kn + so) = lN (mnB 1000000000000000 (mbyA A l o two kn so) (opP A kn) (f + 1)) → M2 21 (512 * kn + so) = nI (mnB 1000000 (wbyA A l o two kn so) (opP A kn) (f + 1)) → R266 M2 N2 := fun M2 N2 a1 a2 a3 a4 => h266 _ _ (by
              rw [nI_1]
              exact ihf M2 N2 a1 a2 (by rw [if_neg t]; exact a3) (by rw [if_neg t]; exact a4))
            have skip : ¬ opP A kn f = true → R266 M' N' := fun z => go M' N' kt k19 (by
              have e : mnB 1000000000000000 (mbyA A l o two kn so) (opP A kn) (f + 1) = mnB 1000000000000000 (mbyA A l o two kn so) (opP A kn) f := if_neg z
              rw [e]; exact en) (by
              have e : mnB 1000000 (wbyA A l o two kn so) (opP A kn) (f + 1) = mnB 1000000 (wbyA A l o two kn so) (opP A kn) f := if_neg z
              rw [e]; exact em)
            have e15 : M' 15 f = A.2 15 f := kt.1.row (by omega) f
            refine br_j (fun hbit => skip (fun z => (opP_iff.mp z).1 hbit)) (fun hbit => ⟨vin (by omega) (by omega), ?_⟩)
            rw [nI_clamp (show f < 2 ^ 31 by omega), e15]
            refine br_c (fun hbar => ⟨vin hi (by omega), ?_⟩) (fun hbar => skip (fun z => hbar (opP_iff.mp z).2))
            have hop : opP A kn f = true := opP_iff.mpr ⟨hbit, hbar⟩
            have hf2 : 2 ^ f < 2 ^ A.1 0 := Nat.pow_lt_pow_right (by omega) hf
            have k1 : kn ||| 2 ^ f < 2 ^ A.1 0 := Nat.or_lt_two_pow hk hf2
            have k2 : so ||| 2 ^ f < 2 ^ A.1 0 := Nat.or_lt_two_pow hs hf2
            have kgt := or_gt hbit
            have sub := sub_or (f := f) hsub
            obtain ⟨-, -, n1, w1⟩ := ht _ so kgt k1 hs sub.1
            obtain ⟨-, -, n2, w2⟩ := ht _ (so ||| 2 ^ f) kgt k1 k2 sub.2
            have c1 := kt.2 (512 * (kn ||| 2 ^ f) + so) (by omega)
            have c2 := kt.2 (512 * (kn ||| 2 ^ f) + (so ||| 2 ^ f)) (by omega)
            have b1 := meG_le h.1 (l := l) (o := o) (two := two) k1 sub.1
            have b2 := meG_le h.1 (l := l) (o := o) (two := two) k1 sub.2
            refine s12_meanBy kt.1 hk hs hf b1.1 b2.1 (c1.2.2.2.trans n1) (c2.2.2.2.trans n2) ⟨vin hi (by omega), ?_⟩
            rintro N2 rfl
            refine ⟨vin hi (by omega), s12_worstBy kt.1 hk hs hf b1.2.1 b2.2.1 (c1.2.2.1.trans w1) (c2.2.2.1.trans w2) ⟨vin hi (by omega), ?_⟩⟩
            rintro M2 rfl
            have t1 := mnB_top 1000000000000000 (mbyA A l o two kn so) (opP A kn) f
            have t2 := mnB_top 1000000 (wbyA A l o two kn so) (opP A kn) f
            have m1 : mbyA A l o two kn so f < 2 ^ 62 := by
              have hsh := (shR_le h.1 (kn := kn) (so := so)).2
              have hmi : miA A f ≤ 99 := by
                have := (mbF_le h.1 (b := 2 ^ f) hf).1
                unfold mbF at this
                rw [Nat.testBit_two_pow, decide_eq_true rfl, if_pos rfl] at this
                exact this
              have hm := Nat.mul_le_mul hsh hmi
              show mbyN (shR A kn so) (miA A f) (meG A l o two (kn ||| 2 ^ f) so) (meG A l o two (kn ||| 2 ^ f) (so ||| 2 ^ f)) < 2 ^ 62
              unfold mbyN
              split
              · omega
              · have := b1.1
                have := b2.1
                omega
            have m2 : wbyA A l o two kn so f < 2 ^ 31 := by
              have hmi : miA A f ≤ 99 := by
                have := (mbF_le h.1 (b := 2 ^ f) hf).1
                unfold mbF at this
                rw [Nat.testBit_two_pow, decide_eq_true rfl, if_pos rfl] at this
                exact this
              show wbyN (miA A f) (woG A l o two (kn ||| 2 ^ f) so) (woG A l o two (kn ||| 2 ^ f) (so ||| 2 ^ f)) < 2 ^ 31
              unfold wbyN
              split <;> omega
            have minL : (if lN (mbyA A l o two kn so f) < lN (mnB 1000000000000000 (mbyA A l o two kn so) (opP A kn) f) then lN (mbyA A l o two kn so f) else lN (mnB 1000000000000000 (mbyA A l o two kn so) (opP A kn) f)) = lN (min (mnB 1000000000000000 (mbyA A l o two kn so) (opP A kn) f) (mbyA A l o two kn so f)) := by
              by_cases q : mbyA A l o two kn so f < mnB 1000000000000000 (mbyA A l o two kn so) (opP A kn) f
              · rw [if_pos ((pk_lLT (by omega) (by omega)).mpr q), Nat.min_eq_right (by omega)]
              · rw [if_neg (fun y => q ((pk_lLT (by omega) (by omega)).mp y)), Nat.min_eq_left (by omega)]
            refine go _ _ ⟨kt.1.up21 (by omega) _, fun j hj => ?_⟩ (fun j => ⟨by rw [up_of _ _ _ _ (by omega)]; exact (k19 j).1, by rw [up_of _ _ _ _ (by omega)]; exact (k19 j).2⟩) ?_ ?_
            · obtain ⟨a1, a2, a3, a4⟩ := kt.2 j hj
              refine ⟨by rw [up_of _ _ _ _ (by omega)]; exact a1, by rw [up_of _ _ _ _ (by omega)]; exact a2, by rw [up_at, if_neg hj]; exact a3, ?_⟩
              rw [upN_same, vp_updL, if_neg hj]; exact a4
            · have e : mnB 1000000000000000 (mbyA A l o two kn so) (opP A kn) (f + 1) = min (mnB 1000000000000000 (mbyA A l o two kn so) (opP A kn) f) (mbyA A l o two kn so f) := if_pos hop
              rw [e, upN_same, vp_updL, if_pos rfl, en]
              exact minL
            · have e : mnB 1000000 (wbyA A l o two kn so) (opP A kn) (f + 1) = min (mnB 1000000 (wbyA A l o two kn so) (opP A kn) f) (wbyA A l o two kn so f) := if_pos hop
              rw [e, up_at, if_pos rfl, em, Nat.min_comm]
              exact minI m2 (by omega)
        · rw [up_of _ _ _ _ (by omega)]; exact (k5 j hj).1
        · rw [up_of _ _ _ _ (by omega)]; exact (k5 j hj).2
        · rw [up_at, if_neg hj]; exact k21 j
        · rw [upN_same, vp_updL, if_neg hj]
        · rw [upN_same, vp_updL, if_pos rfl, e9]
          rfl
        · rw [up_at, if_pos rfl, e14]
          rfl
      refine s12_isOut hx hi e19 e20 (fun t => ?_) (fun t => ?_)
      · intro R143 h143
        refine br_f (by decide) (h143 _ ⟨vin hi (by omega), s12_isOut hx hi e19 e20 (fun _ => ?_) (fun t2 => absurd t t2)⟩)
        intro R168 h168
        exact br_f (by decide) (h168 _ ⟨vin hi (by omega), fin 0 0 (by rw [if_pos t]; rfl) (by rw [if_pos t]; rfl)⟩)
      · intro R143 h143
        refine br_t rfl (h143 _ ⟨vin hi (by omega), s12_isOut hx hi e19 e20 (fun t2 => absurd t2 t) (fun _ => ?_)⟩)
        intro R168 h168
        exact br_t rfl (h168 _ ⟨vin hi (by omega), fin 1000000000000000 1000000 (by rw [if_neg t]; rfl) (by rw [if_neg t]; rfl)⟩)
    have e1 : nI (2 ^ A.1 0) - 1 = nI (2 ^ A.1 0 - 1) := pk_sub (a := 2 ^ A.1 0) (b := 1) hp
    rw [h.cases, e1, nI_eq (show kn < 2 ^ 31 by omega) (show 2 ^ A.1 0 - 1 < 2 ^ 31 by omega)]
    refine bn_c (fun z => ?_) (fun z => ?_)
    · -- open facts
      refine s_ntz ?_
      rw [lowz_ok kn (by omega)]
      obtain ⟨f1, f2⟩ := lowz_in (A.1 0) (by omega) kn hk z
      generalize lowb (4095 ^^^ kn) = f at f1 f2 ⊢
      have f2 := Bool.eq_false_iff.mp f2
      have hf2 : 2 ^ f < 2 ^ A.1 0 := Nat.pow_lt_pow_right (by omega) f1
      have k1 : kn ||| 2 ^ f < 2 ^ A.1 0 := Nat.or_lt_two_pow hk hf2
      have k2 : so ||| 2 ^ f < 2 ^ A.1 0 := Nat.or_lt_two_pow hs hf2
      have kgt := or_gt f2
      have sub := sub_or (f := f) hsub
      obtain ⟨s1, s2, -, -⟩ := ht _ so kgt k1 hs sub.1
      obtain ⟨s3, s4, -, -⟩ := ht _ (so ||| 2 ^ f) kgt k1 k2 sub.2
      refine s12_joined (Or.inl rfl) (by omega) (by omega) (by omega) (by omega) ⟨vin hi (by omega), ?_⟩
      rw [s1, s3, ← sure_rec hdl hk hs hsub f1 f2, nI_clamp (show 512 * kn + so < 2 ^ 31 by omega)]
      refine s12_joined (Or.inr rfl) (by omega) (by omega) (by omega) (by omega) ⟨vin hi (by omega), ?_⟩
      rintro M2 rfl
      refine rest _ ((h.up21 (by omega) _).up21 (by omega) _) (fun j hj => ⟨?_, ?_⟩) (fun j => ?_) ?_ (fun t => ?_)
      · rw [up_of _ _ _ _ (by omega), up_at, if_neg hj]
      · rw [up_at, if_neg hj, up_of _ _ _ _ (by omega)]
      · rw [up_of _ _ _ _ (by omega), up_of _ _ _ _ (by omega)]
      · rw [up_of _ _ _ _ (by omega), up_at, if_pos rfl]
      · rw [up_at, if_pos rfl, up_of _ _ _ _ (by omega), up_of _ _ _ _ (by omega), s2 t, s4 t, ← sure_rec (hdo t) hk hs hsub f1 f2]
    · -- all known
      have sfull : ∀ q, sdOK A q → sureV (sdA A q) (2 ^ A.1 0) kn so = sdA A q so := fun q hq2 => (sure_cst hq2 hs hsub).1 (by rw [z]; exact cst_full)
      refine s12_saidOn h (by omega) (by omega) ⟨vin hi (by omega), ?_⟩
      rw [nI_clamp (show 512 * kn + so < 2 ^ 31 by omega)]
      intro R67 h67
      have done : ∀ x : Int32, (two = true → x = sdA A o so) → R67 x := fun x hx2 => h67 x ⟨vin hi (by omega), by
        rintro M2 rfl
        refine rest _ ((h.up21 (by omega) _).up21 (by omega) _) (fun j hj => ⟨?_, ?_⟩) (fun j => ?_) ?_ (fun t => ?_)
        · rw [up_of _ _ _ _ (by omega), up_at, if_neg hj]
        · rw [up_at, if_neg hj, up_of _ _ _ _ (by omega)]
        · rw [up_of _ _ _ _ (by omega), up_of _ _ _ _ (by omega)]
        · rw [up_of _ _ _ _ (by omega), up_at, if_pos rfl]
          exact (sfull l hdl).symm
        · rw [up_at, if_pos rfl, hx2 t, sfull o (hdo t)]⟩
      rw [hx]
      refine br_c (fun t => done 0 (fun t2 => by rw [t] at t2; exact absurd t2 (by decide))) (fun t => ?_)
      have t2 : two = true := by
        cases two with
        | false => exact absurd rfl t
        | true => rfl
      obtain ⟨o1, o2⟩ := ho t2
      rw [o2]
      exact s12_saidOn (h.up21 (by omega) _) (by omega) (by omega) (done _ (fun _ => rfl))
  rw [hb]
  cases two with
  | false => exact br_t rfl (main 0 ⟨fun _ => rfl, fun _ => rfl⟩)
  | true => exact br_f (by decide) (main 1 ⟨fun z => absurd z (by decide), fun z => absurd z (by decide)⟩)
