/-! ways: all of them -/
theorem waysOK_same {M M' : jM} {A : aS} {l kn : Nat} (h : waysOK M A l kn) (hk : kn < 2 ^ A.1 0) (he : ∀ b, b < 2 ^ A.1 0 → b &&& kn = b → M' (64 + 8 * l + 4) (sum3 kn + sum3 b) = M (64 + 8 * l + 4) (sum3 kn + sum3 b)) : waysOK M' A l kn := by
  refine ⟨fun so s1 s2 => ?_, fun s t s1 t1 s2 t2 => ?_⟩
  · rw [he so s1 s2]
    exact h.1 so s1 s2
  · rw [he s s1 s2, he t t1 t2]
    exact h.2 s t s1 t1 s2 t2
theorem s11_fillWays {P : jP} {M : jM} {A : aS} {l B : Nat} (hcore : CoreC P M (A.1 0)) (hl : l < 6) (hlw : cLw P (64 + 8 * l) = true) (hi3 : cIA P (64 + 8 * l + 3) = some (2 ^ A.1 0)) (hi4 : cIA P (64 + 8 * l + 4) = some (3 ^ A.1 0)) (hsd : sdOK A l) (hM : ∀ c, c < 2 ^ A.1 0 → M (64 + 8 * l + 3) c = sdA A l c) (hS : StampOK P M B) (hB : B < 2 ^ 29) {Q : jM → Prop} (hq : ∀ M', agW l M M' → StampOK P M' (B + 512) → WayS M' A l → WayE M' A l → WayB M' A l → Q M') : w_X1_fillWays P (64 + 8 * l) M Q := by
  have hn := hcore.1
  have hC := two_le hn.2
  have hp := Nat.two_pow_pos (A.1 0)
  have hz3 := hcore.2.1.2.2.2
  have hsq := side_sq hn.2
  have hsdl := side_le hn.2
  unfold w_X1_fillWays
  intro R8 h8
  rw [hcore.2.2.1]
  have e0 : nI (2 ^ A.1 0 - 1) = dI (2 ^ A.1 0) := by
    rw [← dI_sub hp]
    exact (pk_sub (a := 2 ^ A.1 0) (b := 1) hp).symm
  rw [e0]
  refine lp_dn (R := fun j => j ≤ 2 ^ A.1 0 → ∀ M', agW l M M' → StampOK P M' (B + (2 ^ A.1 0 - j)) → (∀ kn, j ≤ kn → kn < 2 ^ A.1 0 → waysOK M' A l kn) → R8 (dI j) M') ?_ ?_ (2 ^ A.1 0) (Nat.le_refl _) M (agW.refl l M) (by rw [Nat.sub_self]; exact hS) (fun kn a b => absurd b (by omega))
  · intro _ M' g ⟨s, s1, s2⟩ hw
    obtain ⟨w1, w2, w3⟩ := ways_all hsd hn.2 (fun kn hk => hw kn (Nat.zero_le _) hk)
    exact h8 _ _ (br_t (by decide) (hq M' g ⟨s, by omega, s2⟩ w1 w2 w3))
  · intro kn ih hj M2 g2 hS2 hw
    have hk : kn < 2 ^ A.1 0 := by omega
    have hpc := pow_popc (a := kn)
    obtain ⟨s, s1, s2, s3⟩ := hS2
    refine h8 _ _ ?_
    rw [show dI (kn + 1) = nI kn from rfl]
    refine br_f (nI_pos (by omega)) ?_
    generalize hM1 : upM (upM M2 5 6 (M2 5 6 + 1)) 5 7 7 = M1
    have g1 : agW l M2 M1 := by
      rw [← hM1]
      exact (agW.u5 _ (Or.inl rfl) _).trans (agW.u5 _ (Or.inr rfl) _)
    have m56 : M1 5 6 = nI (s + 1) := by
      rw [← hM1, up_at, if_neg (by omega), up_at, if_pos rfl, s2, nI_1]
    have m57 : M1 5 7 = nI 7 := by
      rw [← hM1, up_at, if_pos rfl]
      rfl
    have mo : ∀ k, k ≠ 5 → M1 k = M2 k := fun k hk5 => by
      rw [← hM1, upM_ne _ _ _ hk5, upM_ne _ _ _ hk5]
    have hw1 : ∀ q, kn + 1 ≤ q → q < 2 ^ A.1 0 → waysOK M1 A l q := fun q q1 q2 => waysOK_same (hw q q1 q2) q2 (fun b _ _ => by rw [mo _ (by omega)])
    have gM1 := g2.trans g1
    intro R33 h33
    by_cases hfull : kn = 2 ^ A.1 0 - 1
    · -- all facts known: what is said and one more
      have start := lp_up (R := fun k => ∀ M', agW l M1 M' → M' 5 6 = nI (s + 1) → M' 23 = M1 23 → (∀ b, b < cE kn (2 ^ A.1 0) k → b &&& kn = b → M' (64 + 8 * l + 4) (sum3 kn + sum3 b) = sdA A l b + 1) → R33 (nI (pdE kn k)) (nI k) M') (2 ^ popc kn) ?_ ?_ 0 (Nat.zero_le _) M1 (agW.refl l M1) m56 rfl (fun b hb => by rw [cE_0] at hb; exact absurd hb (Nat.not_lt_zero b))
      · rw [pdE_0] at start
        exact start
      · intro M' g e6 e23 hv
        rw [cE_e] at hv
        refine h33 _ _ _ (s_bc ?_)
        rw [shl_popc (show kn < 4096 by omega)]
        refine br_t (nI_le (Nat.le_refl _) (by omega)) ?_
        rw [dI_of]
        refine ih (by omega) M' (gM1.trans g) ⟨s + 1, by omega, e6, fun i hi => ?_⟩ (fun q q1 q2 => ?_)
        · rw [e23, mo 23 (by omega)]
          obtain ⟨v, v1, v2⟩ := s3 i hi
          exact ⟨v, by omega, v2⟩
        · have e : q = kn := by omega
          rw [e]
          refine ⟨fun so so1 so2 => ?_, fun a b a1 b1 a2 b2 => ?_⟩
          · obtain ⟨v, v1, v2⟩ := hsd so so1
            rw [hv so so1 so2]
            exact ⟨v, by omega, v2, Or.inl ⟨by omega, by rw [hfull]; exact cst_full, v2⟩⟩
          · rw [hv a a1 a2, hv b b1 b2]
            constructor
            · intro e2 r hr hz
              have e3 := cst_full (l := l) (b := a) r hr (by rw [← hfull]; exact hz)
              have e4 := cst_full (l := l) (b := b) r hr (by rw [← hfull]; exact hz)
              rw [e3, e4]
              have e5 := congrArg (fun x => x - 1) e2
              simp only [Int32.add_sub_cancel] at e5
              exact e5
            · intro e2
              have := e2 0 hp (Nat.zero_and _)
              rw [Nat.or_zero, Nat.or_zero] at this
              rw [this]
      · intro k hkk ihk M' g e6 e23 hv
        obtain ⟨e1, e2, e3, -⟩ := pd_step kn (by omega) k hkk
        have ep : pdE kn k = pd kn k := if_pos hkk
        have ec : cE kn (2 ^ A.1 0) k = pd kn k := cE_t hkk
        have hb : pd kn k < 2 ^ A.1 0 := by omega
        have pl := place_lt hn.2 hk hb
        have gg := gM1.trans g
        have hcore' := hcore.agW gg
        refine h33 _ _ _ (s_bc ?_)
        rw [shl_popc (show kn < 4096 by omega), ep]
        refine br_f (nI_ge hkk (by omega)) (place_core hcore' hk hb ⟨hlw, ?_⟩)
        intro R91 h91
        rw [hcore'.2.2.1]
        refine ⟨fun z => absurd (by rw [← hfull]) z, fun _ => ⟨hlw, jin_of hi3 hb (by omega), h91 _ _ _ ⟨jin_of hi4 pl.1 (by omega), ?_⟩⟩⟩
        rw [nI_clamp (show pd kn k < 2 ^ 31 by omega), nI_clamp (show sum3 kn + sum3 (pd kn k) < 2 ^ 31 by omega), e1, nI_1, gg.1 (64 + 8 * l + 3) (by omega) (by omega) (by omega) (by omega), hM _ hb]
        refine ihk _ (g.trans (agW.uw _ _ _)) (by rw [up_of _ _ _ _ (by omega)]; exact e6) ?_ (fun b b1 b2 => ?_)
        · rw [upM_ne _ _ _ (by omega)]; exact e23
        · rw [up_at]
          rcases (cE_next hk hC hkk b2).mp b1 with q | q
          · rw [if_neg (fun e4 => by
              have := (place_inj (by omega) (by omega) b2 e2 e4).2
              rw [ec] at q
              omega)]
            exact hv b q b2
          · rw [q, if_pos rfl]
    · -- some facts open
      have hf := free_ok hn.2 hk hfull
      have hf2 : 2 ^ freeL (A.1 0) kn < 2 ^ A.1 0 := Nat.pow_lt_pow_right (by omega) hf.1
      have k1 : kn ||| 2 ^ freeL (A.1 0) kn < 2 ^ A.1 0 := Nat.or_lt_two_pow hk hf2
      have kgt := or_gt hf.2.1
      have hd := hw1 _ (show kn + 1 ≤ kn ||| 2 ^ freeL (A.1 0) kn by omega) k1
      have start := lp_up (R := fun k => ∀ M' w, fillI (P.2.2 3) M1 M' (A.1 0) l kn (s + 1) w k (cE kn (2 ^ A.1 0) k) → R33 (nI (pdE kn k)) (nI k) M') (2 ^ popc kn) ?_ ?_ 0 (Nat.zero_le _) M1 7 ?_
      · rw [pdE_0] at start
        exact start
      · intro M' w hI
        rw [cE_e] at hI
        refine h33 _ _ _ (s_bc ?_)
        rw [shl_popc (show kn < 4096 by omega)]
        refine br_t (nI_le (Nat.le_refl _) (by omega)) ?_
        rw [dI_of]
        have g := hI.1
        refine ih (by omega) M' (gM1.trans g) ⟨s + 1, by omega, hI.2.1, hI.2.2.2.2.1⟩ (fun q q1 q2 => ?_)
        by_cases e : q = kn
        · rw [e]
          rw [hz3] at hI
          exact fillI_end hn.1 hn.2 hk hfull rfl hd hI
        · exact waysOK_same (hw1 q (by omega) q2) q2 (fun b b1 b2 => hI.2.2.2.2.2.1 q b e q2 b1 b2)
      · intro k hkk ihk M' w hI
        obtain ⟨e1, e2, e3, -⟩ := pd_step kn (by omega) k hkk
        have ep : pdE kn k = pd kn k := if_pos hkk
        have ec : cE kn (2 ^ A.1 0) k = pd kn k := cE_t hkk
        have hnx : ∀ c, c &&& kn = c → (c < cE kn (2 ^ A.1 0) (k + 1) ↔ c < pd kn k ∨ c = pd kn k) := fun c hc => by
          rw [cE_next hk hC hkk hc, ec]
        rw [ec] at hI
        have g := hI.1
        have hb : pd kn k < 2 ^ A.1 0 := by omega
        have pl := place_lt hn.2 hk hb
        have gg := gM1.trans g
        have hcore' := hcore.agW gg
        have hbf : pd kn k ||| 2 ^ freeL (A.1 0) kn < 2 ^ A.1 0 := Nat.or_lt_two_pow hb hf2
        have sb0 : pd kn k &&& (kn ||| 2 ^ freeL (A.1 0) kn) = pd kn k := by
          apply Nat.eq_of_testBit_eq
          intro i
          have e4 := congrArg (fun x => x.testBit i) e2
          simp only [Nat.testBit_and, Nat.testBit_or] at e4 ⊢
          revert e4
          cases (pd kn k).testBit i <;> cases kn.testBit i <;> cases (2 ^ freeL (A.1 0) kn).testBit i <;> decide
        have sb1 : (pd kn k ||| 2 ^ freeL (A.1 0) kn) &&& (kn ||| 2 ^ freeL (A.1 0) kn) = pd kn k ||| 2 ^ freeL (A.1 0) kn := by
          apply Nat.eq_of_testBit_eq
          intro i
          have e4 := congrArg (fun x => x.testBit i) e2
          simp only [Nat.testBit_and, Nat.testBit_or] at e4 ⊢
          revert e4
          cases (pd kn k).testBit i <;> cases kn.testBit i <;> cases (2 ^ freeL (A.1 0) kn).testBit i <;> decide
        have val : ∀ b, b < 2 ^ A.1 0 → b &&& (kn ||| 2 ^ freeL (A.1 0) kn) = b → M' (64 + 8 * l + 4) (sum3 (kn ||| 2 ^ freeL (A.1 0) kn) + sum3 b) = nI (nmW M1 l (A.1 0) kn b) ∧ nmW M1 l (A.1 0) kn b < sideN (A.1 0) := fun b b1 b2 => by
          obtain ⟨v, v1, v2, -⟩ := hd.1 b b1 b2
          have e : nmW M1 l (A.1 0) kn b = v := by
            show (M1 _ _).toNatClampNeg = v
            rw [v2, nI_clamp (by omega)]
          rw [hI.2.2.2.2.2.1 _ b (by omega) k1 b1 b2, v2, e]
          exact ⟨rfl, v1⟩
        obtain ⟨a1, a2⟩ := val _ hb sb0
        obtain ⟨d1, d2⟩ := val _ hbf sb1
        have hpr : prW M1 l (A.1 0) kn (pd kn k) < P.2.2 3 := by
          rw [hz3]
          unfold prW
          generalize nmW M1 l (A.1 0) kn (pd kn k) = x at a2
          generalize nmW M1 l (A.1 0) kn (pd kn k ||| 2 ^ freeL (A.1 0) kn) = y at d2
          have h1 := Nat.mul_le_mul_right (sideN (A.1 0)) (show x + 1 ≤ sideN (A.1 0) by omega)
          rw [Nat.add_mul, Nat.one_mul] at h1
          omega
        refine h33 _ _ _ (s_bc ?_)
        rw [shl_popc (show kn < 4096 by omega), ep]
        refine br_f (nI_ge hkk (by omega)) (place_core hcore' hk hb ⟨hlw, ?_⟩)
        intro R91 h91
        rw [hcore'.2.2.1]
        refine ⟨fun _ => ?_, fun z => absurd ((nI_eq (by omega) (by omega)).mp z) hfull⟩
        have go : ∀ x M3 w', fillI (P.2.2 3) M1 (upM M3 (64 + 8 * l + 4) (sum3 kn + sum3 (pd kn k)) x) (A.1 0) l kn (s + 1) w' (k + 1) (cE kn (2 ^ A.1 0) (k + 1)) → R91 (64 + 8 * l + 4) x M3 := fun x M3 w' hI' => h91 _ _ _ ⟨jin_of hi4 pl.1 (by omega), by
          rw [nI_clamp (show sum3 kn + sum3 (pd kn k) < 2 ^ 31 by omega), e1, nI_1]
          exact ihk _ w' hI'⟩
        refine s11_joined hcore' hlw hi4 hk hfull hb e2 a1 d1 a2 d2 (fun t1 t2 => go _ _ w (fillI_tail hl hn.2 hI hk e2 hnx (fun _ => rfl) (fun z => absurd ⟨t1, t2⟩ z))) (fun nt st => go _ _ w (fillI_tail hl hn.2 hI hk e2 hnx (fun z => absurd z nt) (fun _ => ⟨st.trans hI.2.1, rfl⟩))) (fun nt st => go _ _ (w + 1) ?_)
        rw [hI.2.1, hI.2.2.1]
        rw [hI.2.1] at st
        exact fillI_next hl hn.2 hI (by omega) hk e2 hnx hpr nt st
      · refine ⟨agW.refl l M1, m56, m57, ⟨Nat.le_refl _, Nat.le_refl _⟩, fun i hi => ?_, fun _ _ _ _ _ _ => rfl, ?_, fun b b1 => ?_, fun i hi he => ?_, fun i j i1 j1 he => ?_⟩
        · rw [mo 23 (by omega)]
          obtain ⟨v, v1, v2⟩ := s3 i hi
          exact ⟨v, by omega, v2⟩
        · have : ∀ N, N ≤ P.2.2 3 → cntB (stB M1 (s + 1)) N = 0 := by
            intro N
            induction N with
            | zero => intro _; rfl
            | succ N ihN =>
              intro hN
              rw [cntB_f (fun y => ?_), ihN (by omega)]
              obtain ⟨v, v1, v2⟩ := s3 N (by omega)
              have y := stB_iff.mp y
              rw [mo 23 (by omega), v2] at y
              have := (nI_eq (by omega) (by omega)).mp y
              omega
          rw [this _ (Nat.le_refl _)]
        · rw [cE_0] at b1
          exact absurd b1 (Nat.not_lt_zero b)
        · obtain ⟨v, v1, v2⟩ := s3 i hi
          rw [mo 23 (by omega), v2] at he
          have := (nI_eq (by omega) (by omega)).mp he
          omega
        · obtain ⟨v, v1, v2⟩ := s3 i i1
          rw [mo 23 (by omega), v2] at he
          have := (nI_eq (by omega) (by omega)).mp he
          omega
