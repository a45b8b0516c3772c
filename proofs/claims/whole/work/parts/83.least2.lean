/-! least: the reference -/
theorem dI_pos {j : Nat} (hj : j < 2 ^ 31) : ¬ dI (j + 1) < 0 := nI_pos hj
theorem lp_dn {R : Nat → Prop} (h0 : R 0) (hs : ∀ i, R i → R (i + 1)) : ∀ i, R i
  | 0 => h0
  | i + 1 => hs i (lp_dn h0 hs i)
/-- the rows from a set on -/
def leB (A : aS) (l lo : Nat) (M : jM) : Prop := RelM M A ∧ ∀ a, lo ≤ a → a < 2 ^ A.1 0 → M 26 a = nI (lfG (bxA A l) (A.1 0) a) ∧ ∀ f, f < A.1 0 → ¬ a.testBit f = true → M 25 (9 * a + f) = nI (bxA A l a f)
theorem s12_least {P : jP} {M : jM} {A : aS} (h : RelM M A) {a w : Int32} {Q : Int32 → jM → Prop} (hq : ∀ M', RelM M' A → Q (leastS A a w) M') : w_X12_least P a w M Q := by
  unfold w_X12_least
  have h0 := h.thr 0
  generalize upM M 1 0 0 = M0 at h0 ⊢
  have hC := h0.C512
  have h9 := h0.n9
  have h1 := h0.n1
  have hp := Nat.two_pow_pos (A.1 0)
  refine s12_isLaw h0 (br_i (fun hn => ?_) (fun hl => s12_isIn (br_j (fun hw => ?_) (fun hn => ?_))))
  · have hq := hq M0 h0
    rw [leastS, if_neg (fun z => hn z.1)] at hq; exact hq
  · obtain ⟨l, hl1, hl2, rfl⟩ := okL_of h0 hl
    have hb := bxA_le h0.1 l
    intro R31 h31
    rw [h0.cases, dI_sub hp]
    refine lp_dn (R := fun j => j ≤ 2 ^ A.1 0 → ∀ M', leB A l j M' → R31 (dI j) M') ?_ ?_ (2 ^ A.1 0) (Nat.le_refl _) M0 ⟨h0, fun c h1 h2 => absurd h2 (by omega)⟩
    · -- all rows stand
      intro _ M1 ⟨r1, ht⟩
      have hq := hq M1 r1
      rw [leastS, if_pos ⟨hl, hw⟩, nI_clamp (show l < 2 ^ 31 by omega)] at hq
      refine h31 _ _ (br_t (by decide) ⟨fun hz => ?_, fun hz => ⟨vin (n := 0) (by omega) (by omega), ?_⟩⟩)
      · rw [if_neg hz] at hq
        intro R155 h155
        refine lp_up (R := fun k => R155 (nI (lnN (bxA A l) (A.1 0) k)) (nI (laN (bxA A l) (A.1 0) k)) (nI k)) (A.1 0) (h155 _ _ _ ?_) ?_ 0 (Nat.zero_le _)
        · rw [r1.facts]
          exact br_t (nI_le (Nat.le_refl _) (by omega)) hq
        · intro k hk ih
          obtain ⟨l1, l2, l3, l4, l5⟩ := laN_ok (bx := bxA A l) h9 hb hk
          have step1 : laN (bxA A l) (A.1 0) (k + 1) = laN (bxA A l) (A.1 0) k ||| 2 ^ nxF2 (bxA A l) (A.1 0) (laN (bxA A l) (A.1 0) k) := rfl
          have step2 : lnN (bxA A l) (A.1 0) (k + 1) = A.1 0 * lnN (bxA A l) (A.1 0) k + nxF2 (bxA A l) (A.1 0) (laN (bxA A l) (A.1 0) k) := rfl
          rw [step1, step2] at ih
          generalize lnN (bxA A l) (A.1 0) k = num at ih ⊢
          generalize laN (bxA A l) (A.1 0) k = ah at ih l1 l2 l3 l4 l5 ⊢
          generalize hfn : nxF2 (bxA A l) (A.1 0) ah = fn at ih l2 l3 l4 l5
          refine h155 _ _ _ ?_
          rw [r1.facts]
          refine br_f (nI_ge hk (by omega)) ?_
          intro R167 h167
          have ix : ∀ f, f < 9 → vp_in ((9 : Int32) * nI ah + nI f) 4608 ∧ ((9 : Int32) * nI ah + nI f).toNatClampNeg = 9 * ah + f := fun f hf => ix9 (by omega) (by omega)
          have G0 := lfG_le (bx := bxA A l) h9 hb l1
          have body : ∀ f, f ≤ fn → (f < fn → R167 (nI (f + 1))) → R167 (nI f) := by
            intro f hf hnx
            have hor : ah ||| 2 ^ f < 2 ^ A.1 0 := Nat.or_lt_two_pow l1 (Nat.pow_lt_pow_right (by omega) (by omega))
            have G1 := lfG_le (bx := bxA A l) h9 hb hor
            have B1 := hb ah f
            refine h167 _ (s12_has (by omega) (by omega) ?_)
            intro R213 h213
            refine br_j (fun hbit => h213 ?_) (fun hbit => ⟨(ix f (by omega)).1, ?_⟩)
            · rw [nI_1]
              exact hnx (Nat.lt_of_le_of_ne hf (fun e => l3 (by rw [← e]; exact hbit)))
            · rw [shl1 (by omega), nI_or, (ix f (by omega)).2, nI_clamp (show ah ||| 2 ^ f < 2 ^ 31 by omega), nI_clamp (show ah < 2 ^ 31 by omega), (ht _ (Nat.zero_le _) hor).1, (ht _ (Nat.zero_le _) l1).1, (ht _ (Nat.zero_le _) l1).2 f (by omega) hbit, nI_add, pk_mul, nI_add, nI_1, nI_eq (show bxA A l ah f + lfG (bxA A l) (A.1 0) (ah ||| 2 ^ f) < 2 ^ 31 by omega) (show lfG (bxA A l) (A.1 0) ah < 2 ^ 31 by omega)]
              refine ⟨vin (by omega) (by omega), vin (by omega) (by omega), fun e => ?_, fun e => h213 ?_⟩
              · have ef : f = fn := by
                  rcases Nat.lt_or_eq_of_le hf with q | q
                  · exact absurd (nxP_iff.mpr ⟨hbit, e⟩) (l5 f q)
                  · exact q
                rw [ef]
                exact ih
              · rw [nI_1]
                refine hnx (Nat.lt_of_le_of_ne hf (fun e2 => e ?_))
                rw [e2]
                exact (nxP_iff.mp l4).2
          exact lp_up (R := fun f => R167 (nI f)) fn (body fn (Nat.le_refl _) (fun z => absurd z (Nat.lt_irrefl _))) (fun f hf ihf => body f (by omega) (fun _ => ihf)) 0 (Nat.zero_le _)
      · rw [if_pos hz] at hq
        have := (ht 0 (Nat.le_refl _) hp).1
        rw [show (0 : Int32).toNatClampNeg = 0 from rfl, this]
        exact hq
    · intro j ih hj M1 ⟨r1, ht⟩
      have hjC : j < 2 ^ A.1 0 := by omega
      refine h31 _ _ ?_
      rw [show dI (j + 1) = nI j from rfl]
      refine br_f (nI_pos (by omega)) ?_
      refine s12_layBoxes r1 hl1 hjC (fun M2 k2 hbx => ?_)
      have ht2 : ∀ c, j + 1 ≤ c → c < 2 ^ A.1 0 → M2 26 c = nI (lfG (bxA A l) (A.1 0) c) ∧ ∀ f, f < A.1 0 → ¬ c.testBit f = true → M2 25 (9 * c + f) = nI (bxA A l c f) := fun c c1 c2 => by
        obtain ⟨t1, t2⟩ := ht c c1 c2
        refine ⟨by rw [k2.2.1 26 (by omega) (by omega)]; exact t1, fun f hf hfb => ?_⟩
        rw [k2.2.2 _ (fun g hg => by omega)]
        exact t2 f hf hfb
      rw [k2.1.cases, dI_sub hp]
      intro R63 h63
      have full : dI (2 ^ A.1 0) = nI (2 ^ A.1 0 - 1) := by rw [← dI_sub hp]; exact pk_sub (a := 2 ^ A.1 0) (b := 1) hp
      have start : R63 (nI (if j = 2 ^ A.1 0 - 1 then 0 else 1000000)) := by
        refine h63 _ ⟨vin (by omega) (by omega), ?_⟩
        intro R67 h67
        rw [nI_clamp (show j < 2 ^ 31 by omega)]
        have mnv : Nat → Nat := fun f => if j = 2 ^ A.1 0 - 1 then 0 else mnL (fun f => bxA A l j f + lfG (bxA A l) (A.1 0) (j ||| 2 ^ f)) (outB j) f
        refine lp_up (R := fun f => ∀ M3, RelM M3 A → (∀ k, k ≠ 26 → M3 k = M2 k) → (∀ c, c ≠ j → M3 26 c = M2 26 c) → M3 26 j = nI (if j = 2 ^ A.1 0 - 1 then 0 else mnL (fun f => bxA A l j f + lfG (bxA A l) (A.1 0) (j ||| 2 ^ f)) (outB j) f) → R67 (nI f) M3) (A.1 0) ?_ ?_ 0 (Nat.zero_le _) _ (k2.1.up _ (by unfold pA; omega)) (fun k hk => upM_ne _ _ _ hk) (fun c hc => by rw [up_at, if_neg hc]) (by rw [up_at, if_pos rfl]; rfl)
        · intro M3 r3 m1 m2 m3
          refine h67 _ _ ?_
          rw [r3.facts]
          refine br_t (nI_le (Nat.le_refl _) (by omega)) ?_
          rw [dI_of]
          refine ih (by omega) M3 ⟨r3, fun c c1 c2 => ?_⟩
          by_cases e : c = j
          · subst e
            refine ⟨?_, fun f hf hfb => by rw [m1 25 (by omega)]; exact hbx f hf hfb⟩
            rw [m3]
            by_cases q : c = 2 ^ A.1 0 - 1
            · rw [if_pos q, q, lfG_full]
            · rw [if_neg q, lfG_eq hjC q]
          · obtain ⟨t1, t2⟩ := ht2 c (by omega) c2
            exact ⟨by rw [m2 c e]; exact t1, fun f hf hfb => by rw [m1 25 (by omega)]; exact t2 f hf hfb⟩
        · intro f hf ihf M3 r3 m1 m2 m3
          refine h67 _ _ ?_
          rw [r3.facts]
          refine br_f (nI_ge hf (by omega)) ?_
          refine s12_has (by omega) (by omega) ?_
          intro R124 h124
          have go : ∀ M4, RelM M4 A → (∀ k, k ≠ 26 → M4 k = M2 k) → (∀ c, c ≠ j → M4 26 c = M2 26 c) → M4 26 j = nI (if j = 2 ^ A.1 0 - 1 then 0 else mnL (fun f => bxA A l j f + lfG (bxA A l) (A.1 0) (j ||| 2 ^ f)) (outB j) (f + 1)) → R124 M4 := fun M4 q1 q2 q3 q4 => h124 _ (by rw [nI_1]; exact ihf M4 q1 q2 q3 q4)
          refine br_j (fun hbit => go M3 r3 m1 m2 ?_) (fun hbit => ?_)
          · rw [m3]
            have e : mnL (fun f => bxA A l j f + lfG (bxA A l) (A.1 0) (j ||| 2 ^ f)) (outB j) (f + 1) = mnL (fun f => bxA A l j f + lfG (bxA A l) (A.1 0) (j ||| 2 ^ f)) (outB j) f := if_neg (fun z => outB_iff.mp z hbit)
            rw [e]
          · have hne : j ≠ 2 ^ A.1 0 - 1 := fun e => hbit (by rw [e, Nat.testBit_two_pow_sub_one, decide_eq_true hf])
            have hor : j ||| 2 ^ f < 2 ^ A.1 0 := Nat.or_lt_two_pow hjC (Nat.pow_lt_pow_right (by omega) hf)
            have hgt := or_gt hbit
            have G1 := lfG_le (bx := bxA A l) h9 hb hor
            have B1 := hb j f
            have ix := ix9 (l := j) (k := f) (N := 4608) (by omega) (by omega)
            rw [if_neg hne] at m3
            have e25 : M3 25 (9 * j + f) = nI (bxA A l j f) := by rw [m1 25 (by omega)]; exact hbx f hf hbit
            have e26 : M3 26 (j ||| 2 ^ f) = nI (lfG (bxA A l) (A.1 0) (j ||| 2 ^ f)) := by rw [m2 _ (by omega)]; exact (ht2 _ (by omega) hor).1
            have emn : mnL (fun f => bxA A l j f + lfG (bxA A l) (A.1 0) (j ||| 2 ^ f)) (outB j) (f + 1) = min (mnL (fun f => bxA A l j f + lfG (bxA A l) (A.1 0) (j ||| 2 ^ f)) (outB j) f) (bxA A l j f + lfG (bxA A l) (A.1 0) (j ||| 2 ^ f)) := if_pos (outB_iff.mpr hbit)
            have hm6 : mnL (fun f => bxA A l j f + lfG (bxA A l) (A.1 0) (j ||| 2 ^ f)) (outB j) f ≤ 1000000 := by
              rcases mnL_at (fun f => bxA A l j f + lfG (bxA A l) (A.1 0) (j ||| 2 ^ f)) (outB j) f with q | ⟨g, g1, g2, g3⟩
              · omega
              · have hog : j ||| 2 ^ g < 2 ^ A.1 0 := Nat.or_lt_two_pow hjC (Nat.pow_lt_pow_right (by omega) (by omega))
                have G2 := lfG_le (bx := bxA A l) h9 hb hog
                have B2 := hb j g
                have g3 : bxA A l j g + lfG (bxA A l) (A.1 0) (j ||| 2 ^ g) = _ := g3
                omega
            refine ⟨vin (by omega) (by omega), ix.1, ?_⟩
            rw [shl1 (by omega), nI_or]
            refine ⟨vin (by omega) (by omega), vin (by omega) (by omega), ?_⟩
            rw [nI_clamp (show j < 2 ^ 31 by omega), nI_clamp (show j ||| 2 ^ f < 2 ^ 31 by omega), ix.2, e25, e26, m3, nI_add, minI (by omega) (by omega)]
            rintro M4 rfl
            refine go _ (r3.up _ (by unfold pA; omega)) (fun k hk => by rw [upM_ne _ _ _ hk]; exact m1 k hk) (fun c hc => by rw [up_at, if_neg hc]; exact m2 c hc) ?_
            rw [up_at, if_pos rfl, if_neg hne, emn, Nat.min_comm]
      refine ⟨fun z => ?_, fun z => ?_⟩
      · have hne : j ≠ 2 ^ A.1 0 - 1 := fun e => z (by rw [full, e])
        rw [if_neg hne] at start
        exact start
      · have he : j = 2 ^ A.1 0 - 1 := (nI_eq (by omega) (by omega)).mp (z.trans full)
        rw [if_pos he] at start
        exact start
  · have hq := hq M0 h0
    rw [leastS, if_neg (fun z => hn z.2)] at hq; exact hq
