/-! least: the class -/
def LeastOK (M : jM) (A : aS) (l : Nat) : Prop := M (64 + 8 * l) 5 = -1 ∨ (M (64 + 8 * l) 5 = nI (lfG (bxA A l) (A.1 0) 0) ∧ M (64 + 8 * l) 6 = nI (lnN (bxA A l) (A.1 0) (A.1 0)))
def agL (l : Nat) (M M' : jM) : Prop := (∀ k, k ≠ 5 → k ≠ 23 → k ≠ 25 → k ≠ 64 + 8 * l → M' k = M k) ∧ (∀ j, j ≠ 6 → M' 5 j = M 5 j) ∧ ∀ j, j ≠ 5 → j ≠ 6 → M' (64 + 8 * l) j = M (64 + 8 * l) j
theorem agL.refl (l : Nat) (M : jM) : agL l M M := ⟨fun _ _ _ _ _ => rfl, fun _ _ => rfl, fun _ _ _ => rfl⟩
theorem agL.trans {l : Nat} {M M' M2 : jM} (h : agL l M M') (h' : agL l M' M2) : agL l M M2 := ⟨fun k a b c d => (h'.1 k a b c d).trans (h.1 k a b c d), fun j a => (h'.2.1 j a).trans (h.2.1 j a), fun j a b => (h'.2.2 j a b).trans (h.2.2 j a b)⟩
theorem agL.of {l : Nat} {M M' : jM} (h : agS M M') : agL l M M' := ⟨fun k a b _ _ => h.1 k a b, h.2, fun j _ _ => by rw [h.1 (64 + 8 * l) (by omega) (by omega)]⟩
theorem agL.up25 {l : Nat} (M : jM) (j : Nat) (v : Int32) : agL l M (upM M 25 j v) := ⟨fun k _ _ c _ => upM_ne _ _ _ c, fun i _ => up_of _ _ _ _ (by omega), fun i _ _ => up_of _ _ _ _ (by omega)⟩
theorem agL.upl {l : Nat} (M : jM) {j : Nat} (hj : j = 5 ∨ j = 6) (v : Int32) : agL l M (upM M (64 + 8 * l) j v) := ⟨fun k _ _ _ d => upM_ne _ _ _ d, fun i _ => up_of _ _ _ _ (by omega), fun i a b => by rw [up_at, if_neg (by omega)]⟩
theorem RelC.agL {P : jP} {M M' : jM} {A : aS} {l : Nat} (h : RelC P M A) (g : agL l M M') : RelC P M' A := by
  refine h.agree (fun k j hk => ?_) (fun k j hk => ?_)
  · by_cases e5 : k = 5
    · subst e5
      have hj : j = 1 := hk
      exact g.2.1 j (by omega)
    · by_cases e23 : k = 23
      · subst e23; exact absurd hk (fun z => z)
      · by_cases e25 : k = 25
        · subst e25; exact absurd hk (fun z => z)
        · by_cases el : k = 64 + 8 * l
          · have hk2 : k < 64 := by
              apply Classical.byContradiction
              intro z
              unfold pCs at hk
              split at hk <;> omega
            omega
          · rw [g.1 k e5 e23 e25 el]
  · have hk64 := pCd_ge hk
    by_cases el : k = 64 + 8 * l
    · subst el
      have hj : j ≠ 5 ∧ j ≠ 6 := by
        unfold pCd at hk
        rw [show (64 + 8 * l - 64) % 8 = 0 by omega] at hk
        have h6 := h.num
        unfold wfNum at h6
        omega
      exact g.2.2 j hj.1 hj.2
    · rw [g.1 k (by omega) (by omega) (by omega) el]
theorem WayE.agL {M M' : jM} {A : aS} {l q : Nat} (h : WayE M A l) (g : agL q M M') : WayE M' A l := by
  unfold WayE
  rw [g.1 (64 + 8 * l + 4) (by omega) (by omega) (by omega) (by omega)]
  exact h
theorem WayB.agL {M M' : jM} {A : aS} {l q : Nat} (h : WayB M A l) (g : agL q M M') : WayB M' A l := by
  unfold WayB
  rw [g.1 (64 + 8 * l + 4) (by omega) (by omega) (by omega) (by omega)]
  exact h
def fewI (m : Nat) : Int32 := if m = 1000000 then -1 else nI m
theorem rests_at {M M' : jM} (g : agS M M') : M' 25 = M 25 := g.1 25 (by omega) (by omega)
theorem s11_fewest {P : jP} {M : jM} {A : aS} (h : RelC P M A) {l a B : Nat} (hl : l < A.1 2) (hE : WayE M A l) (hW : WayB M A l) (hS : StampOK P M B) (hB : B < 2 ^ 29) (ha : a < 2 ^ A.1 0) (hne : a ≠ 2 ^ A.1 0 - 1) (ht : ∀ c, a < c → c < 2 ^ A.1 0 → M 25 c = nI (lfG (bxA A l) (A.1 0) c)) {Q : Int32 → jM → Prop} (hq : ∀ M', agS M M' → StampOK P M' (B + 9) → Q (nI (lfG (bxA A l) (A.1 0) a)) M') : w_X1_fewest P (64 + 8 * l) (nI a) M Q := by
  have hC := h.C512
  have h9 := h.n9
  have hb := bxA_le h.1 l
  have hm6 : ∀ f, f ≤ A.1 0 → mnL (fun f => bxA A l a f + lfG (bxA A l) (A.1 0) (a ||| 2 ^ f)) (outB a) f = 1000000 ∨ mnL (fun f => bxA A l a f + lfG (bxA A l) (A.1 0) (a ||| 2 ^ f)) (outB a) f < 300000 := fun f hf => by
    rcases mnL_at (fun f => bxA A l a f + lfG (bxA A l) (A.1 0) (a ||| 2 ^ f)) (outB a) f with q | ⟨g, g1, g2, g3⟩
    · exact Or.inl q
    · have hog : a ||| 2 ^ g < 2 ^ A.1 0 := Nat.or_lt_two_pow ha (Nat.pow_lt_pow_right (by omega) (by omega))
      have G2 := lfG_le (bx := bxA A l) h9 hb hog
      have B2 := hb a g
      have g3 : bxA A l a g + lfG (bxA A l) (A.1 0) (a ||| 2 ^ g) = _ := g3
      exact Or.inr (by omega)
  unfold w_X1_fewest
  intro R5 h5
  refine lp_up (R := fun f => f ≤ A.1 0 → ∀ M', agS M M' → StampOK P M' (B + f) → R5 (fewI (mnL (fun f => bxA A l a f + lfG (bxA A l) (A.1 0) (a ||| 2 ^ f)) (outB a) f)) (nI f) M') (A.1 0) ?_ ?_ 0 (Nat.zero_le _) (Nat.zero_le _) M (agS.refl M) hS
  · intro _ M' g ⟨s, s1, s2⟩
    refine h5 _ _ _ ?_
    rw [(h.agS g).facts]
    refine br_t (nI_le (Nat.le_refl _) (by omega)) ?_
    have hG := lfG_le (bx := bxA A l) h9 hb ha
    rw [← lfG_eq ha hne, fewI, if_neg (by omega)]
    exact hq M' g ⟨s, by omega, s2⟩
  · intro f hf ih _ M' g hS'
    have hr := h.agS g
    refine h5 _ _ _ ?_
    rw [hr.facts]
    refine br_f (nI_ge hf (by omega)) ?_
    intro R66 h66
    have go : ∀ x M2, x = fewI (mnL (fun f => bxA A l a f + lfG (bxA A l) (A.1 0) (a ||| 2 ^ f)) (outB a) (f + 1)) → agS M M2 → StampOK P M2 (B + (f + 1)) → R66 x M2 := fun x M2 ex q1 q2 => h66 _ _ (by rw [nI_1, ex]; exact ih (by omega) M2 q1 q2)
    rw [bit1_0 (by omega) (by omega)]
    refine ⟨fun z => go _ M' ?_ g ?_, fun z => ?_⟩
    · have e : mnL (fun f => bxA A l a f + lfG (bxA A l) (A.1 0) (a ||| 2 ^ f)) (outB a) (f + 1) = mnL (fun f => bxA A l a f + lfG (bxA A l) (A.1 0) (a ||| 2 ^ f)) (outB a) f := if_neg (fun y => z (outB_iff.mp y))
      rw [e]
    · obtain ⟨s, s1, s2⟩ := hS'
      exact ⟨s, by omega, s2⟩
    · have hor : a ||| 2 ^ f < 2 ^ A.1 0 := Nat.or_lt_two_pow ha (Nat.pow_lt_pow_right (by omega) hf)
      have hgt := or_gt z
      have G1 := lfG_le (bx := bxA A l) h9 hb hor
      have B1 := hb a f
      have hmf := hm6 f (by omega)
      have emn : mnL (fun f => bxA A l a f + lfG (bxA A l) (A.1 0) (a ||| 2 ^ f)) (outB a) (f + 1) = min (mnL (fun f => bxA A l a f + lfG (bxA A l) (A.1 0) (a ||| 2 ^ f)) (outB a) f) (bxA A l a f + lfG (bxA A l) (A.1 0) (a ||| 2 ^ f)) := if_pos (outB_iff.mpr z)
      rw [emn] at go
      generalize mnL (fun f => bxA A l a f + lfG (bxA A l) (A.1 0) (a ||| 2 ^ f)) (outB a) f = m at go hmf
      refine s11_boxes hr hl (hE.agS g) (hW.agS g) hS' (by omega) ha hf z (fun M2 g2 hS2 => ?_)
      rw [shl1 (by omega), nI_or]
      refine ⟨vin (by rw [h.z1]; exact hor) (by rw [h.z1]; omega), ?_⟩
      have e25 : M2 25 (a ||| 2 ^ f) = nI (lfG (bxA A l) (A.1 0) (a ||| 2 ^ f)) := by
        rw [rests_at g2, rests_at g]
        exact ht _ hgt hor
      have B1' : boxN A l a f ≤ 512 := B1
      rw [nI_clamp (show a ||| 2 ^ f < 2 ^ 31 by omega), e25, nI_add]
      rintro y rfl
      intro R65 h65
      have fin : ∀ x, x = fewI (min m (boxN A l a f + lfG (bxA A l) (A.1 0) (a ||| 2 ^ f))) → R65 x := fun x ex => h65 _ (go _ M2 ex (g.trans g2) hS2)
      unfold fewI
      by_cases hm : m = 1000000
      · rw [if_pos hm]
        refine br_t rfl (fin _ ?_)
        rw [Nat.min_eq_right (by omega), fewI, if_neg (by omega)]
      · rw [if_neg hm]
        refine br_f (nI_ne1 (by omega)) (br_c (fun y => fin _ ?_) (fun y => fin _ ?_))
        · have y := (nI_leI (by omega) (by omega)).mp y
          rw [Nat.min_eq_left y, fewI, if_neg hm]
        · have y : ¬ m ≤ boxN A l a f + lfG (bxA A l) (A.1 0) (a ||| 2 ^ f) := fun w => y ((nI_leI (by omega) (by omega)).mpr w)
          rw [Nat.min_eq_right (by omega), fewI, if_neg (by omega)]
theorem s11_lowestNext {P : jP} {M : jM} {A : aS} (h : RelC P M A) {l a B : Nat} (hl : l < A.1 2) (hE : WayE M A l) (hW : WayB M A l) (hS : StampOK P M B) (hB : B < 2 ^ 29) (ha : a < 2 ^ A.1 0) (hne : a ≠ 2 ^ A.1 0 - 1) (ht : ∀ c, c < 2 ^ A.1 0 → M 25 c = nI (lfG (bxA A l) (A.1 0) c)) {Q : Int32 → jM → Prop} (hq : ∀ M', agS M M' → StampOK P M' (B + 9) → Q (nI (nxF2 (bxA A l) (A.1 0) a)) M') : w_X1_lowestNext P (64 + 8 * l) (nI a) M Q := by
  have hC := h.C512
  have h9 := h.n9
  have hb := bxA_le h.1 l
  obtain ⟨l1, l2, l3⟩ := loN_at (A.1 0) _ (nx_some h9 hb ha hne)
  have l1 : nxF2 (bxA A l) (A.1 0) a < A.1 0 := l1
  have G0 := lfG_le (bx := bxA A l) h9 hb ha
  unfold w_X1_lowestNext
  intro R2 h2
  have body : ∀ f, f ≤ nxF2 (bxA A l) (A.1 0) a → ∀ M', agS M M' → StampOK P M' (B + f) → (f < nxF2 (bxA A l) (A.1 0) a → ∀ M2, agS M M2 → StampOK P M2 (B + (f + 1)) → R2 (nI (f + 1)) M2) → R2 (nI f) M' := by
    intro f hf M' g hS' hnx
    have hr := h.agS g
    have hor : a ||| 2 ^ f < 2 ^ A.1 0 := Nat.or_lt_two_pow ha (Nat.pow_lt_pow_right (by omega) (by omega))
    have G1 := lfG_le (bx := bxA A l) h9 hb hor
    have B1 : boxN A l a f ≤ 512 := hb a f
    refine h2 _ _ ?_
    rw [hr.facts]
    refine br_f (nI_ge (show f < A.1 0 by omega) (by omega)) ?_
    intro R50 h50
    rw [bit1_0 (by omega) (by omega)]
    refine ⟨fun z => h50 _ ?_, fun z => s11_boxes hr hl (hE.agS g) (hW.agS g) hS' (by omega) ha (by omega) z (fun M2 g2 hS2 => ?_)⟩
    · rw [nI_1]
      have z : a.testBit f = true := Classical.byContradiction z
      refine hnx (Nat.lt_of_le_of_ne hf (fun e => (nxP_iff.mp l2).1 ?_)) M' g ?_
      · have e : f = loN (nxP (bxA A l) (A.1 0) a) (A.1 0) := e
        rw [← e]; exact z
      · obtain ⟨s, s1, s2⟩ := hS'
        exact ⟨s, by omega, s2⟩
    · have e25 : ∀ c, c < 2 ^ A.1 0 → M2 25 c = nI (lfG (bxA A l) (A.1 0) c) := fun c hc => by
        rw [rests_at g2, rests_at g]
        exact ht c hc
      rw [shl1 (by omega), nI_or]
      refine ⟨vin (by rw [h.z1]; exact hor) (by rw [h.z1]; omega), vin (by rw [h.z1]; exact ha) (by rw [h.z1]; omega), ?_⟩
      rw [nI_clamp (show a ||| 2 ^ f < 2 ^ 31 by omega), nI_clamp (show a < 2 ^ 31 by omega), e25 _ hor, e25 _ ha, nI_add, nI_eq (by omega) (by omega)]
      refine bn_c (fun z2 => h50 _ ?_) (fun z2 => ?_)
      · rw [nI_1]
        refine hnx (Nat.lt_of_le_of_ne hf (fun e => z2 ?_)) M2 (g.trans g2) hS2
        have e : f = loN (nxP (bxA A l) (A.1 0) a) (A.1 0) := e
        rw [e]
        exact (nxP_iff.mp l2).2
      · have ef : f = nxF2 (bxA A l) (A.1 0) a := by
          rcases Nat.lt_or_eq_of_le hf with q | q
          · exact absurd (nxP_iff.mpr ⟨z, z2⟩) (l3 f q)
          · exact q
        have := hq M2 (g.trans g2) (by
          obtain ⟨s, s1, s2⟩ := hS2
          exact ⟨s, by omega, s2⟩)
        rw [← ef] at this
        exact this
  refine lp_up (R := fun f => f ≤ nxF2 (bxA A l) (A.1 0) a → ∀ M', agS M M' → StampOK P M' (B + f) → R2 (nI f) M') (nxF2 (bxA A l) (A.1 0) a) (fun _ M' g hS' => body _ (Nat.le_refl _) M' g hS' (fun z => absurd z (Nat.lt_irrefl _))) (fun f hf ihf _ M' g hS' => body f (by omega) M' g hS' (fun _ M2 q1 q2 => ihf (by omega) M2 q1 q2)) 0 (Nat.zero_le _) (Nat.zero_le _) M (agS.refl M) hS
theorem s11_findLeast {P : jP} {M : jM} {A : aS} (h : RelC P M A) {l B : Nat} (hl : l < A.1 2) (hE : WayE M A l) (hW : WayB M A l) (hL : LeastOK M A l) (hS : StampOK P M B) (hB : B < 2 ^ 28) {Q : jM → Prop} (hq : ∀ M', agL l M M' → StampOK P M' (B + 5000) → M' (64 + 8 * l) 5 = nI (lfG (bxA A l) (A.1 0) 0) → M' (64 + 8 * l) 6 = nI (lnN (bxA A l) (A.1 0) (A.1 0)) → Q M') : w_X1_findLeast P (64 + 8 * l) M Q := by
  have hC := h.C512
  have h9 := h.n9
  have h1 := h.n1
  have hp := Nat.two_pow_pos (A.1 0)
  have hp2 : 2 ^ 1 ≤ 2 ^ A.1 0 := Nat.pow_le_pow_right (by omega) h1
  have hb := bxA_le h.1 l
  have G0 := lfG_le (bx := bxA A l) h9 hb hp
  unfold w_X1_findLeast
  refine ⟨h.lw hl, br_c (fun z => ?_) (fun z => ?_)⟩
  · rw [h.full, nI_clamp (show 2 ^ A.1 0 - 1 < 2 ^ 31 by omega)]
    refine ⟨vin (by rw [h.z1]; omega) (by rw [h.z1]; omega), ?_⟩
    rw [up_of _ _ _ _ (show (2 : Nat) ≠ 25 by omega), h.full, dI_sub (by omega)]
    intro R32 h32
    refine lp_dn (R := fun j => j ≤ 2 ^ A.1 0 - 1 → ∀ M', agL l M M' → StampOK P M' (B + 9 * (2 ^ A.1 0 - 1 - j)) → (∀ c, j ≤ c → c < 2 ^ A.1 0 → M' 25 c = nI (lfG (bxA A l) (A.1 0) c)) → R32 (dI j) M') ?_ ?_ (2 ^ A.1 0 - 1) (Nat.le_refl _) _ (agL.up25 M _ 0) ?_ ?_
    · intro _ M' g hS' ht
      refine h32 _ _ (br_t (by decide) ?_)
      intro R61 h61
      refine lp_up (R := fun k => k ≤ A.1 0 → ∀ M2, agL l M M2 → StampOK P M2 (B + 9 * (2 ^ A.1 0 - 1) + 9 * k) → (∀ c, c < 2 ^ A.1 0 → M2 25 c = nI (lfG (bxA A l) (A.1 0) c)) → R61 (nI (lnN (bxA A l) (A.1 0) k)) (nI (laN (bxA A l) (A.1 0) k)) (nI k) M2) (A.1 0) ?_ ?_ 0 (Nat.zero_le _) (Nat.zero_le _) M' g hS' (fun c hc => ht c (Nat.zero_le _) hc)
      · intro _ M2 g2 ⟨s, s1, s2, s3⟩ ht2
        refine h61 _ _ _ _ ?_
        rw [(h.agL g2).facts]
        refine br_t (nI_le (Nat.le_refl _) (by omega)) ⟨vin (n := 0) (by rw [h.z1]; omega) (by rw [h.z1]; omega), h.lw hl, ?_⟩
        rw [show (0 : Int32).toNatClampNeg = 0 from rfl, ht2 0 hp]
        rintro M3 rfl
        refine ⟨h.lw hl, hq _ ((g2.trans (agL.upl _ (Or.inl rfl) _)).trans (agL.upl _ (Or.inr rfl) _)) ⟨s, by omega, ?_, fun i hi => ?_⟩ ?_ ?_⟩
        · rw [up_of _ _ _ _ (by omega), up_of _ _ _ _ (by omega)]; exact s2
        · rw [up_of _ _ _ _ (by omega), up_of _ _ _ _ (by omega)]; exact s3 i hi
        · rw [up_at, if_neg (by omega), up_at, if_pos rfl]
        · rw [up_at, if_pos rfl]
      · intro k hk ih _ M2 g2 hS2 ht2
        have hr := h.agL g2
        obtain ⟨l1, l2⟩ := laN_pop (bx := bxA A l) h9 hb k (by omega)
        have hne : laN (bxA A l) (A.1 0) k ≠ 2 ^ A.1 0 - 1 := fun e => by
          rw [e, popc_fulln _ (by omega)] at l2
          omega
        have hlt := (laN_ok (bx := bxA A l) h9 hb hk).2.1
        refine h61 _ _ _ _ ?_
        rw [hr.facts]
        refine br_f (nI_ge hk (by omega)) (s11_lowestNext hr hl (hE.agL g2) (hW.agL g2) hS2 (by omega) l1 hne ht2 (fun M3 g3 hS3 => ?_))
        rw [(hr.agS g3).facts, shl1 (by omega), nI_or, pk_mul, nI_add, nI_1, Nat.mul_comm]
        exact ih (by omega) M3 (g2.trans (agL.of g3)) (by
          obtain ⟨s, s1, s2⟩ := hS3
          exact ⟨s, by omega, s2⟩) (fun c hc => by rw [rests_at g3]; exact ht2 c hc)
    · intro j ih hj M' g hS' ht
      have hr := h.agL g
      refine h32 _ _ ?_
      rw [show dI (j + 1) = nI j from rfl]
      refine br_f (nI_pos (by omega)) (s11_fewest hr hl (hE.agL g) (hW.agL g) hS' (by omega) (by omega) (by omega) (fun c c1 c2 => ht c c1 c2) (fun M2 g2 hS2 => ⟨vin (by rw [h.z1]; omega) (by rw [h.z1]; omega), ?_⟩))
      rw [dI_of, nI_clamp (show j < 2 ^ 31 by omega)]
      refine ih (by omega) _ ((g.trans (agL.of g2)).trans (agL.up25 _ _ _)) ?_ (fun c c1 c2 => ?_)
      · obtain ⟨s, s1, s2, s3⟩ := hS2
        refine ⟨s, by omega, by rw [up_of _ _ _ _ (by omega)]; exact s2, fun i hi => by rw [up_of _ _ _ _ (by omega)]; exact s3 i hi⟩
      · rw [up_at]
        by_cases e : c = j
        · rw [if_pos e, e]
        · rw [if_neg e, rests_at g2]
          exact ht c (by omega) c2
    · obtain ⟨s, s1, s2, s3⟩ := hS
      refine ⟨s, by omega, by rw [up_of _ _ _ _ (by omega)]; exact s2, fun i hi => by rw [up_of _ _ _ _ (by omega)]; exact s3 i hi⟩
    · intro c c1 c2
      have e : c = 2 ^ A.1 0 - 1 := by omega
      rw [up_at, if_pos e, e, lfG_full]
      rfl
  · obtain ⟨s, s1, s2⟩ := hS
    rcases hL with q | ⟨q1, q2⟩
    · exact absurd q z
    · exact hq M (agL.refl l M) ⟨s, by omega, s2⟩ q1 q2
theorem s11_least {P : jP} {M : jM} {A : aS} (h : RelC P M A) (hE : ∀ l, l < A.1 2 → WayE M A l) (hW : ∀ l, l < A.1 2 → WayB M A l) (hL : ∀ l, l < A.1 2 → LeastOK M A l) {B : Nat} (hS : StampOK P M B) (hB : B < 2 ^ 28) {a w : Int32} {Q : Int32 → jM → Prop} (hq0 : Q (leastS A a w) M) (hq : ∀ l M', l < A.1 2 → agL l M M' → StampOK P M' (B + 5000) → LeastOK M' A l → Q (leastS A a w) M') : w_X11_least P a w M Q := by
  unfold w_X11_least
  refine s11_lawAt h (fun hn => br_t rfl ?_) (fun l hl el => br_f (by omega) (br_c (fun hw => ?_) (fun hw => br_c (fun hw1 => ?_) (fun hw1 => ?_))))
  · rw [leastS, if_neg (fun z => hn z.1)] at hq0; exact hq0
  · rw [leastS, if_neg (fun z => z.2.1 hw)] at hq0; exact hq0
  · subst el
    have ol := okL_mk (M := M) h.1 hl
    refine s11_findLeast h hl (hE l hl) (hW l hl) (hL l hl) hS hB (fun M' g hS' e5 e6 => ?_)
    have hq := hq l M' hl g hS' (Or.inr ⟨e5, e6⟩)
    rw [leastS, if_pos ⟨ol.1, hw, Int32.not_lt.mpr hw1⟩, nI_clamp (by omega)] at hq
    refine bn_c (fun z => ⟨h.lw hl, ?_⟩) (fun z => ⟨h.lw hl, ?_⟩)
    · rw [if_neg z] at hq
      rw [e6]; exact hq
    · rw [if_pos z] at hq
      rw [e5]; exact hq
  · rw [leastS, if_neg (fun z => z.2.2 (Int32.not_le.mp hw1))] at hq0; exact hq0
