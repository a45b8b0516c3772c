/-! asking out: the class fills its tables -/
def vld (n root rs kn s : Nat) : Prop := kn < 2 ^ n ∧ root &&& kn = root ∧ s &&& kn = s ∧ s &&& root = rs
theorem vld.lt {n root rs kn s : Nat} (h : vld n root rs kn s) : s < 2 ^ n := by
  rw [← h.2.2.1]
  exact Nat.lt_of_le_of_lt Nat.and_le_right h.1
theorem vld.child {n root rs kn s f : Nat} (h : vld n root rs kn s) (hf : f < n) (hb : ¬ kn.testBit f = true) : vld n root rs (kn ||| 2 ^ f) s ∧ vld n root rs (kn ||| 2 ^ f) (s ||| 2 ^ f) := by
  obtain ⟨a, b, c, d⟩ := h
  have hf2 : 2 ^ f < 2 ^ n := Nat.pow_lt_pow_right (by omega) hf
  have k1 : kn ||| 2 ^ f < 2 ^ n := Nat.or_lt_two_pow a hf2
  have hr : ¬ root.testBit f = true := fun z => hb (bits_sub b z)
  refine ⟨⟨k1, (sub_or b).1, (sub_or c).1, d⟩, ⟨k1, (sub_or b).1, (sub_or c).2, ?_⟩⟩
  rw [← d]
  apply Nat.eq_of_testBit_eq
  intro i
  rw [Nat.testBit_and, ob, Nat.testBit_and]
  by_cases e : f = i
  · subst e; rw [Bool.eq_false_iff.mpr hr, Bool.and_false, Bool.and_false]
  · rw [decide_eq_false e, Bool.or_false]
theorem s11_shareAt {P : jP} {M : jM} {N : jN} {A : aS} (h : RelC P M A) {kn so : Nat} (hk : kn < 2 ^ A.1 0) (hs : so < 2 ^ A.1 0) (hsub : so &&& kn = so) (hch : ∀ f, f < A.1 0 → ¬ kn.testBit f = true → N 35 (sum3 (kn ||| 2 ^ f) + sum3 so) = lN (shR A (kn ||| 2 ^ f) so) ∧ N 35 (sum3 (kn ||| 2 ^ f) + sum3 (so ||| 2 ^ f)) = lN (shR A (kn ||| 2 ^ f) (so ||| 2 ^ f))) {Q : Int64 → Prop} (hq : Q (lN (shR A kn so))) : w_X0_shareAt P (nI (sum3 kn + sum3 so)) (nI kn) (nI so) M N Q := by
  have hC := h.C512
  have h9 := h.n9
  have hp := Nat.two_pow_pos (A.1 0)
  have z0 := h.2.1.1
  have z2 : P.2.2 2 = 3 ^ A.1 0 := h.2.1.2.2.1
  unfold w_X0_shareAt
  rw [h.full, nI_eq (show kn < 2 ^ 31 by omega) (show 2 ^ A.1 0 - 1 < 2 ^ 31 by omega)]
  refine bn_c (fun z => ?_) (fun z => s11_shareOfAll h (by omega) (by omega) ?_)
  · obtain ⟨f1, f2, f3⟩ := free_ok h9 hk z
    obtain ⟨c1, c2⟩ := hch _ f1 f2
    obtain ⟨u1, u2, u3, u4, u5, u6⟩ := unit_at h hk hs hsub f1 f2
    have hsb : ¬ so.testBit (freeL (A.1 0) kn) = true := fun y => f2 (bits_sub hsub y)
    unfold w_X11_lowest
    refine s_bc ?_
    rw [nI_andn (by omega), low_small _ f3]
    refine ⟨vin (show freeL (A.1 0) kn < P.2.2 0 by omega) (by omega), ?_⟩
    rw [nI_clamp (show freeL (A.1 0) kn < 2 ^ 31 by omega), u1, u2, u3, nI_clamp (show sum3 (kn ||| 2 ^ freeL (A.1 0) kn) + sum3 so < 2 ^ 31 by omega), nI_clamp (show sum3 (kn ||| 2 ^ freeL (A.1 0) kn) + sum3 (so ||| 2 ^ freeL (A.1 0) kn) < 2 ^ 31 by omega), c1, c2, lN_add, ← shR_split h.1.2.2.2.2.2.1 f1 f2 hsb]
    exact ⟨vin (by omega) (by omega), vin (by omega) (by omega), hq⟩
  · rw [(shR_le h.1).1]; exact hq
theorem s11_fill {P : jP} {M : jM} {N : jN} {A : aS} (h : RelC P M A) (hW : ∀ l, l < A.1 2 → WayS M A l) {l o kn so : Nat} {two : Bool} (hh : askH M A l o two) (hk : kn < 2 ^ A.1 0) (hs : so < 2 ^ A.1 0) (hsub : so &&& kn = so) (hch : ∀ f, f < A.1 0 → ¬ kn.testBit f = true → T11 M N A l o two (kn ||| 2 ^ f) so ∧ T11 M N A l o two (kn ||| 2 ^ f) (so ||| 2 ^ f)) (e35 : N 35 (sum3 kn + sum3 so) = lN (shR A kn so)) {Q : jM → jN → Prop} (hq : Q (upM M 37 (sum3 kn + sum3 so) (wI (woG A l o two kn so))) (upN N 36 (sum3 kn + sum3 so) (mI (meG A l o two kn so)))) : w_X0_fill P (nI (sum3 kn + sum3 so)) (nI (andn (2 ^ A.1 0 - 1) kn)) M N Q := by
  have hC := h.C512
  have h9 := h.n9
  have h1n := h.n1
  have z2 : P.2.2 2 = 3 ^ A.1 0 := h.2.1.2.2.1
  have pl := place_lt h9 hk hs
  have hdl := sdOK_of h.1.2.2.1 hh.1
  have hdo : two = true → sdOK A o := fun t => sdOK_of h.1.2.2.1 (hh.2.1 t)
  obtain ⟨me, we⟩ := meG_eq h9 hdl hdo hk hs hsub
  unfold w_X0_fill
  refine s11_outAt h hW hh hk hs hsub (fun t => ?_) (fun t => ?_)
  · rw [if_pos t] at me we
    intro R17 h17
    refine ⟨fun z => absurd z (by decide), fun _ => h17 _ ?_⟩
    intro R28 h28
    refine ⟨fun z => absurd z (by decide), fun _ => h28 _ ?_⟩
    intro R33 h33
    refine h33 _ _ _ ?_
    intro R146 h146
    have r : R146 := h146 ⟨vin (by omega) (by omega), vin (by omega) (by omega), by
      rw [nI_clamp (show sum3 kn + sum3 so < 2 ^ 31 by omega)]
      rw [me, we] at hq
      exact hq⟩
    exact ⟨fun _ => r, fun _ => ⟨fun _ => r, fun z => absurd z (by decide)⟩⟩
  · rw [if_neg t] at me we
    intro R17 h17
    refine ⟨fun _ => h17 _ ?_, fun z => absurd rfl z⟩
    intro R28 h28
    refine ⟨fun _ => h28 _ ?_, fun z => absurd rfl z⟩
    intro R33 h33
    refine lp_up (R := fun f => R33 (mI (mnB 1000000000000000 (mbyA A l o two kn so) (opP A kn) f)) (wI (mnB 1000000 (wbyA A l o two kn so) (opP A kn) f)) (nI f)) (A.1 0) ?_ ?_ 0 (Nat.zero_le _)
    · refine h33 _ _ _ ?_
      intro R146 h146
      rw [h.facts]
      refine br_t (nI_le (Nat.le_refl _) (by omega)) (h146 ⟨vin (by omega) (by omega), vin (by omega) (by omega), ?_⟩)
      rw [nI_clamp (show sum3 kn + sum3 so < 2 ^ 31 by omega)]
      rw [me, we] at hq
      exact hq
    · intro f hf ih
      have em : ∀ (_ : opP A kn f = true), mnB 1000000000000000 (mbyA A l o two kn so) (opP A kn) (f + 1) = min (mnB 1000000000000000 (mbyA A l o two kn so) (opP A kn) f) (mbyA A l o two kn so f) := fun z => if_pos z
      have ew : ∀ (_ : opP A kn f = true), mnB 1000000 (wbyA A l o two kn so) (opP A kn) (f + 1) = min (mnB 1000000 (wbyA A l o two kn so) (opP A kn) f) (wbyA A l o two kn so f) := fun z => if_pos z
      have em0 : ∀ (_ : ¬ opP A kn f = true), mnB 1000000000000000 (mbyA A l o two kn so) (opP A kn) (f + 1) = mnB 1000000000000000 (mbyA A l o two kn so) (opP A kn) f := fun z => if_neg z
      have ew0 : ∀ (_ : ¬ opP A kn f = true), mnB 1000000 (wbyA A l o two kn so) (opP A kn) (f + 1) = mnB 1000000 (wbyA A l o two kn so) (opP A kn) f := fun z => if_neg z
      have t1 := mnB_top 1000000000000000 (mbyA A l o two kn so) (opP A kn) f
      have t2 := mnB_top 1000000 (wbyA A l o two kn so) (opP A kn) f
      have hmb := mby_ok h.1 (l := l) (o := o) (two := two) hk hsub hf
      refine h33 _ _ _ ?_
      intro R146 h146
      rw [h.facts]
      refine br_f (nI_ge hf (by omega)) ⟨fun z => absurd rfl z, fun _ => s11_mayAsk h hf (fun hop => ?_) (fun hop => ?_)⟩
      · intro R140 h140
        rw [em hop, ew hop] at ih
        have hb := (opP_iff.mp hop).1
        obtain ⟨T1, T2⟩ := hch f hf hb
        have bm : mbyA A l o two kn so f ≤ 1000000000000000 := by
          show mbyN (shR A kn so) (miA A f) (meG A l o two (kn ||| 2 ^ f) so) (meG A l o two (kn ||| 2 ^ f) (so ||| 2 ^ f)) ≤ _
          unfold mbyN
          by_cases q : 1000000000000000 ≤ meG A l o two (kn ||| 2 ^ f) so ∨ 1000000000000000 ≤ meG A l o two (kn ||| 2 ^ f) (so ||| 2 ^ f)
          · rw [if_pos q]; omega
          · rw [if_neg q]
            have := hmb.1 q
            exact Nat.le_of_lt this
        have bw : wbyA A l o two kn so f ≤ 1000000 := by
          show wbyN (miA A f) (woG A l o two (kn ||| 2 ^ f) so) (woG A l o two (kn ||| 2 ^ f) (so ||| 2 ^ f)) ≤ _
          unfold wbyN
          by_cases q : 1000000 ≤ max (woG A l o two (kn ||| 2 ^ f) so) (woG A l o two (kn ||| 2 ^ f) (so ||| 2 ^ f))
          · rw [if_pos q]; omega
          · rw [if_neg q]
            exact Nat.le_of_lt (hmb.2 q)
        refine ⟨fun z => absurd z (by decide), fun _ => s11_meanBy h hk hs hsub hf hb T1 T2 e35 (s11_worstBy h hk hs hsub hf hb T1 T2 ?_)⟩
        generalize mbyA A l o two kn so f = by1 at bm ih ⊢
        generalize wbyA A l o two kn so f = by2 at bw ih ⊢
        generalize mnB 1000000000000000 (mbyA A l o two kn so) (opP A kn) f = m1 at t1 ih ⊢
        generalize mnB 1000000 (wbyA A l o two kn so) (opP A kn) f = m2 at t2 ih ⊢
        intro R110 h110
        have second : ∀ x25 : Int64, x25 = mI (min m1 by1) → R110 x25 := by
          intro x25 ex
          refine h110 x25 ?_
          intro R138 h138
          have fin : ∀ x26 : Int32, x26 = wI (min m2 by2) → R138 x26 := fun x26 ew2 => h138 x26 (h140 _ _ (by rw [nI_1, ex, ew2]; exact ih))
          rw [wI_1 bw, wI_1 t2]
          refine br_c (fun z => fin _ (by rw [Nat.min_eq_left (by omega)])) (fun z => br_c (fun z2 => fin _ (by rw [Nat.min_eq_right (by omega)])) (fun z2 => ?_))
          have w1 : wI by2 = nI by2 := if_pos (by omega)
          have w2 : wI m2 = nI m2 := if_pos (by omega)
          rw [w1, w2, nI_leI (by omega) (by omega)]
          refine br_c (fun z3 => fin _ (by rw [Nat.min_eq_left z3, w2])) (fun z3 => fin _ (by rw [Nat.min_eq_right (by omega), w1]))
        rw [lg_cmp_eq, lg_cmp_eq, mI_1 bm, mI_1 t1]
        refine br_c (fun z => second _ (by rw [Nat.min_eq_left (by omega)])) (fun z => br_c (fun z2 => second _ (by rw [Nat.min_eq_right (by omega)])) (fun z2 => ?_))
        have w1 : mI by1 = lN by1 := if_pos (by omega)
        have w2 : mI m1 = lN m1 := if_pos (by omega)
        rw [w1, w2, lg_cmp_ge, pk_lLE (by omega) (by omega)]
        exact br_c (fun z3 => second _ (by rw [Nat.min_eq_left z3, w2])) (fun z3 => second _ (by rw [Nat.min_eq_right (by omega), w1]))
      · intro R140 h140
        rw [em0 hop, ew0 hop] at ih
        exact ⟨fun _ => h140 _ _ (by rw [nI_1]; exact ih), fun z => absurd rfl z⟩
theorem T11.other {M : jM} {N : jN} {A : aS} {l o k s kn so : Nat} {two : Bool} (h : T11 M N A l o two k s) (hk : k < 512) (hkn : kn < 512) (h1 : s &&& k = s) (h2 : so &&& kn = so) (hne : k ≠ kn ∨ s ≠ so) (v35 v36 : Int64) (v37 : Int32) : T11 (upM M 37 (sum3 kn + sum3 so) v37) (upN (upN N 35 (sum3 kn + sum3 so) v35) 36 (sum3 kn + sum3 so) v36) A l o two k s := by
  obtain ⟨a, b, c⟩ := h
  have hp : ¬ sum3 k + sum3 s = sum3 kn + sum3 so := fun e => by
    have := place_inj hk hkn h1 h2 e
    omega
  refine ⟨?_, ?_, ?_⟩
  · rw [upN_ne _ _ _ (by omega), upN_same, vp_updL, if_neg hp]; exact a
  · rw [upN_same, vp_updL, if_neg hp, upN_ne _ _ _ (by omega)]; exact b
  · rw [up_at, if_neg hp]; exact c
theorem RelC.k37 {P : jP} {M M' : jM} {A : aS} (h : RelC P M A) (hM : ∀ k, k ≠ 8 → k ≠ 37 → M' k = M k) : RelC P M' A :=
  h.keep [8, 37] (by simp) (by
    intro k hk j
    simp only [List.mem_cons, List.mem_nil_iff, or_false] at hk
    rcases hk with rfl | rfl <;> exact fun z => z) (fun k hk => hM k (fun e => hk (by simp [e])) (fun e => hk (by simp [e])))
theorem s11_fillAll {P : jP} {M : jM} {N : jN} {A : aS} (h : RelC P M A) (hW : ∀ l, l < A.1 2 → WayS M A l) {l o root rs more : Nat} {two : Bool} (hh : askH M A l o two) (e8 : M 8 8 = nI root) (e9 : M 8 9 = nI rs) (hroot : root < 2 ^ A.1 0) (hrs : rs &&& root = rs) (hmo : more < 2 ^ A.1 0) (hmr : more &&& root = 0) (ht : ∀ f, f < A.1 0 → ¬ (root ||| more).testBit f = true → ∀ s, vld (A.1 0) root rs ((root ||| more) ||| 2 ^ f) s → T11 M N A l o two ((root ||| more) ||| 2 ^ f) s) {Q : jM → jN → Prop} (hq : ∀ M' N', (∀ k, k ≠ 37 → M' k = M k) → (∀ k s, vld (A.1 0) root rs k s → k ≠ root ||| more → T11 M N A l o two k s → T11 M' N' A l o two k s) → (∀ s, vld (A.1 0) root rs (root ||| more) s → T11 M' N' A l o two (root ||| more) s) → Q M' N') : w_X0_fillAll P (nI more) M N Q := by
  have hC := h.C512
  have h9 := h.n9
  have hpc := pow_popc (a := more)
  have z2 : P.2.2 2 = 3 ^ A.1 0 := h.2.1.2.2.1
  have hkn : root ||| more < 2 ^ A.1 0 := Nat.or_lt_two_pow hroot hmo
  have dis : ∀ i, (more.testBit i && root.testBit i) = false := fun i => by
    have := congrArg (fun x => x.testBit i) hmr
    simp only [Nat.testBit_and, Nat.zero_testBit] at this
    exact this
  have hrsl : rs < 2 ^ A.1 0 := by rw [← hrs]; exact Nat.lt_of_le_of_lt Nat.and_le_right hroot
  have rsb : ∀ i, (rs.testBit i && root.testBit i) = rs.testBit i := fun i => by rw [← Nat.testBit_and, hrs]
  unfold w_X0_fillAll
  rw [e8]
  intro R12 h12
  refine lp_up (R := fun k => ∀ M' N', (∀ q, q ≠ 37 → M' q = M q) → (∀ q s, vld (A.1 0) root rs q s → q ≠ root ||| more → T11 M N A l o two q s → T11 M' N' A l o two q s) → (∀ s, vld (A.1 0) root rs (root ||| more) s → s &&& more < cE more (2 ^ A.1 0) k → T11 M' N' A l o two (root ||| more) s) → R12 (nI (pdE more k)) (nI k) M' N') (2 ^ popc more) ?_ ?_ 0 (Nat.zero_le _) M N (fun _ _ => rfl) (fun _ _ _ _ t => t) (fun s _ hc => by rw [cE_0] at hc; exact absurd hc (Nat.not_lt_zero _)) |> fun start => by rw [pdE_0] at start; exact start
  · intro M' N' g1 g2 g3
    refine h12 _ _ _ _ (s_bc ?_)
    rw [shl_popc (show more < 4096 by omega)]
    refine br_t (nI_le (Nat.le_refl _) (by omega)) (hq M' N' g1 g2 (fun s hs => g3 s hs ?_))
    rw [cE_e]
    exact Nat.lt_of_le_of_lt Nat.and_le_right hmo
  · intro k hk ih M' N' g1 g2 g3
    obtain ⟨p1, p2, p3, -⟩ := pd_step more (by omega) k hk
    have ep : pdE more k = pd more k := if_pos hk
    have ec : cE more (2 ^ A.1 0) k = pd more k := cE_t hk
    have psb : ∀ i, ((pd more k).testBit i && more.testBit i) = (pd more k).testBit i := fun i => by rw [← Nat.testBit_and, p2]
    have hr : RelC P M' A := h.k37 (fun q _ q2 => g1 q q2)
    have hW' : ∀ l, l < A.1 2 → WayS M' A l := fun l hl => by
      unfold WayS
      rw [g1 (64 + 8 * l + 4) (by omega)]
      exact hW l hl
    have hh' : askH M' A l o two := by
      unfold askH
      rw [g1 8 (by omega)]
      exact hh
    have hv : vld (A.1 0) root rs (root ||| more) (rs ||| pd more k) := by
      refine ⟨hkn, ?_, ?_, ?_⟩
      · apply Nat.eq_of_testBit_eq
        intro i
        rw [Nat.testBit_and, Nat.testBit_or]
        cases root.testBit i <;> cases more.testBit i <;> rfl
      · apply Nat.eq_of_testBit_eq
        intro i
        have a1 := rsb i
        have a2 := psb i
        rw [Nat.testBit_and, Nat.testBit_or, Nat.testBit_or]
        revert a1 a2
        cases rs.testBit i <;> cases (pd more k).testBit i <;> cases root.testBit i <;> cases more.testBit i <;> decide
      · apply Nat.eq_of_testBit_eq
        intro i
        have a1 := rsb i
        have a2 := psb i
        have a3 := dis i
        rw [Nat.testBit_and, Nat.testBit_or]
        revert a1 a2 a3
        cases rs.testBit i <;> cases (pd more k).testBit i <;> cases root.testBit i <;> cases more.testBit i <;> decide
    have hvm : (rs ||| pd more k) &&& more = pd more k := by
      apply Nat.eq_of_testBit_eq
      intro i
      have a1 := rsb i
      have a2 := psb i
      have a3 := dis i
      rw [Nat.testBit_and, Nat.testBit_or]
      revert a1 a2 a3
      cases rs.testBit i <;> cases (pd more k).testBit i <;> cases root.testBit i <;> cases more.testBit i <;> decide
    have back : ∀ s, vld (A.1 0) root rs (root ||| more) s → s = rs ||| (s &&& more) := fun s hs => by
      obtain ⟨-, -, b3, b4⟩ := hs
      apply Nat.eq_of_testBit_eq
      intro i
      have a1 : (s.testBit i && (root.testBit i || more.testBit i)) = s.testBit i := by rw [← Nat.testBit_or, ← Nat.testBit_and, b3]
      have a2 : (s.testBit i && root.testBit i) = rs.testBit i := by rw [← Nat.testBit_and, b4]
      rw [Nat.testBit_or, Nat.testBit_and, ← a2]
      revert a1
      cases s.testBit i <;> cases root.testBit i <;> cases more.testBit i <;> decide
    have hsl := hv.lt
    have pl := place_lt h9 hkn hsl
    have chT : ∀ f, f < A.1 0 → ¬ (root ||| more).testBit f = true → T11 M' N' A l o two ((root ||| more) ||| 2 ^ f) (rs ||| pd more k) ∧ T11 M' N' A l o two ((root ||| more) ||| 2 ^ f) ((rs ||| pd more k) ||| 2 ^ f) := fun f hf hb => by
      obtain ⟨v1, v2⟩ := hv.child hf hb
      have hne : (root ||| more) ||| 2 ^ f ≠ root ||| more := by
        have := or_gt hb
        omega
      exact ⟨g2 _ _ v1 hne (ht f hf hb _ v1), g2 _ _ v2 hne (ht f hf hb _ v2)⟩
    refine h12 _ _ _ _ (s_bc ?_)
    rw [shl_popc (show more < 4096 by omega), ep]
    refine br_f (nI_ge hk (by omega)) ?_
    rw [g1 8 (by omega), e9, nI_or, nI_or]
    refine s11_place hr hkn hsl (s11_shareAt hr hkn hsl hv.2.2.1 (fun f hf hb => ⟨(chT f hf hb).1.1, (chT f hf hb).2.1⟩) ⟨vin (by omega) (by omega), ?_⟩)
    rw [nI_clamp (show sum3 (root ||| more) + sum3 (rs ||| pd more k) < 2 ^ 31 by omega), hr.full, nI_andn (show 2 ^ A.1 0 - 1 < 4096 by omega)]
    have sub35 : ∀ q s, vld (A.1 0) root rs q s → (q ≠ root ||| more ∨ s ≠ rs ||| pd more k) → T11 M' N' A l o two q s → T11 M' (upN N' 35 (sum3 (root ||| more) + sum3 (rs ||| pd more k)) (lN (shR A (root ||| more) (rs ||| pd more k)))) A l o two q s := fun q s hv2 hne t => by
      obtain ⟨a, b, c⟩ := t
      have hp : ¬ sum3 q + sum3 s = sum3 (root ||| more) + sum3 (rs ||| pd more k) := fun e => by
        have := place_inj (show q < 512 by have := hv2.1; omega) (by omega) hv2.2.2.1 hv.2.2.1 e
        omega
      exact ⟨by rw [upN_same, vp_updL, if_neg hp]; exact a, by rw [upN_ne _ _ _ (by omega)]; exact b, c⟩
    refine s11_fill hr hW' hh' hkn hsl hv.2.2.1 (fun f hf hb => ?_) (by rw [upN_same, vp_updL, if_pos rfl]) ?_
    · obtain ⟨v1, v2⟩ := hv.child hf hb
      have hne : (root ||| more) ||| 2 ^ f ≠ root ||| more := by
        have := or_gt hb
        omega
      exact ⟨sub35 _ _ v1 (Or.inl hne) (chT f hf hb).1, sub35 _ _ v2 (Or.inl hne) (chT f hf hb).2⟩
    · rw [p1, nI_1]
      refine ih _ _ (fun q hq2 => by rw [upM_ne _ _ _ hq2]; exact g1 q hq2) (fun q s hv2 hne t => (g2 q s hv2 hne t).other (by have := hv2.1; omega) (by omega) hv2.2.2.1 hv.2.2.1 (Or.inl hne) _ _ _) (fun s hs hc => ?_)
      rcases (cE_next hmo hC hk (show (s &&& more) &&& more = s &&& more by rw [Nat.and_assoc, Nat.and_self])).mp hc with q | q
      · exact (g3 s hs q).other (by omega) (by omega) hs.2.2.1 hv.2.2.1 (Or.inr (fun e => by rw [e, hvm, ec] at q; omega)) _ _ _
      · have es : s = rs ||| pd more k := by rw [← q]; exact back s hs
        rw [es]
        refine ⟨?_, ?_, ?_⟩
        · rw [upN_ne _ _ _ (by omega), upN_same, vp_updL, if_pos rfl]
        · rw [upN_same, vp_updL, if_pos rfl]
        · rw [up_at, if_pos rfl]
