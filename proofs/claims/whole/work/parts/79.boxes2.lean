/-! boxes: the reference's rows -/
def keepB (M M' : jM) (A : aS) (a : Nat) : Prop := RelM M' A ∧ (∀ k, k ≠ 25 → k ≠ 27 → M' k = M k) ∧ ∀ j, (∀ f, f < 9 → j ≠ 9 * a + f) → M' 25 j = M 25 j
theorem keepB.up25 {M M' : jM} {A : aS} {a f : Nat} (h : keepB M M' A a) (hf : f < 9) (v : Int32) : keepB M (upM M' 25 (9 * a + f) v) A a :=
  ⟨h.1.up v (by unfold pA; omega), fun k h1 h2 => by rw [upM_ne _ _ _ h1]; exact h.2.1 k h1 h2, fun j hj => by rw [up_at, if_neg (hj f hf)]; exact h.2.2 j hj⟩
theorem keepB.up27 {M M' : jM} {A : aS} {a : Nat} (h : keepB M M' A a) (j : Nat) (v : Int32) : keepB M (upM M' 27 j v) A a :=
  ⟨h.1.up v (by unfold pA; omega), fun k h1 h2 => by rw [upM_ne _ _ _ h2]; exact h.2.1 k h1 h2, fun i hi => by rw [up_of _ _ _ _ (by omega)]; exact h.2.2 i hi⟩
theorem sub_iff {a s : Nat} (hs : s < 4096) : nI s &&& (nI a ^^^ (-1)) = 0 ↔ s &&& a = s := by
  rw [nI_andn hs, show (0 : Int32) = nI 0 from rfl, nI_eq (Nat.lt_of_le_of_lt andn_le (by omega)) (by omega)]
  unfold andn
  constructor
  · intro h
    apply Nat.eq_of_testBit_eq
    intro i
    have e := congrArg (fun x => x.testBit i) h
    simp only [Nat.testBit_and, Nat.testBit_xor, Nat.zero_testBit] at e ⊢
    by_cases hi : i < 12
    · rw [show Nat.testBit 4095 i = true from (by decide : ∀ i, i < 12 → Nat.testBit 4095 i = true) i hi] at e
      revert e
      cases s.testBit i <;> cases a.testBit i <;> decide
    · rw [Nat.testBit_lt_two_pow (Nat.lt_of_lt_of_le hs (show 4096 ≤ 2 ^ i from Nat.pow_le_pow_right (n := 2) (by omega) (show 12 ≤ i by omega)))]
      rfl
  · intro h
    apply Nat.eq_of_testBit_eq
    intro i
    have e := congrArg (fun x => x.testBit i) h
    simp only [Nat.testBit_and, Nat.testBit_xor, Nat.zero_testBit] at e ⊢
    by_cases hi : i < 12
    · rw [show Nat.testBit 4095 i = true from (by decide : ∀ i, i < 12 → Nat.testBit 4095 i = true) i hi]
      revert e
      cases s.testBit i <;> cases a.testBit i <;> decide
    · rw [Nat.testBit_lt_two_pow (Nat.lt_of_lt_of_le hs (show 4096 ≤ 2 ^ i from Nat.pow_le_pow_right (n := 2) (by omega) (show 12 ≤ i by omega)))]
      rfl
theorem boxes_fill {P : jP} {M M1 : jM} {A : aS} {l a so : Nat} (hw : wfA A) (hl : l < A.1 2) (ha : a < 2 ^ A.1 0) (hso : so < 2 ^ A.1 0) (hsub : so &&& a = so) (hF : fstB A l a so) {R186 : jM → Prop} (next : ∀ M', keepB M M' A a → (∀ g, g < A.1 0 → ¬ a.testBit g = true → M' 25 (9 * a + g) = nI (cntB (bxB A l a g) (so + 1))) → (∀ s, s < so + 1 → s &&& a = s → (M' 27 s = 0 ↔ ¬ fstB A l a s)) → R186 M') {R129 : Int32 → jM → Prop}
    (h129 : ∀ (x14 : Int32) (M15 : jM), (((M15 1 1) ≤ x14 → (R186 M15)) ∧ (¬ (M15 1 1) ≤ x14 → ((¬ (0 : Int32) = 0 → (R186 M15)) ∧ ((0 : Int32) = 0 → (w_X12_has P (nI a) x14 (fun r18 => ∀ R180 : jM → Prop, (∀ (M21 : jM), (R129 (x14 + 1) M21) → R180 M21) → (¬ r18 = 0 → (R180 M15)) ∧ (r18 = 0 → (w_X12_hangsOn P (nI l) (nI a) (nI so) x14 M15 (fun r23 => (r23 = 0 → (R180 M15)) ∧ (¬ r23 = 0 → (vp_in ((9 * nI a) + x14) (4608) ∧ vp_in ((9 * nI a) + x14) (4608) ∧ ∀ M29 : jM, M29 = upM M15 25 ((9 * nI a) + x14).toNatClampNeg ((M15 25 ((9 * nI a) + x14).toNatClampNeg) + 1) → R180 M29))))))))))) → R129 x14 M15)
    (k1 : keepB M M1 A a) (k2 : ∀ g, g < A.1 0 → ¬ a.testBit g = true → M1 25 (9 * a + g) = nI (cntB (bxB A l a g) so)) (k3 : ∀ s, s < so + 1 → s &&& a = s → (M1 27 s = 0 ↔ ¬ fstB A l a s)) : R129 0 M1 := by
  have h9 := hw.1.1.2
  have hC := two_le h9
  have ix : ∀ f, f < 9 → vp_in ((9 : Int32) * nI a + nI f) 4608 ∧ ((9 : Int32) * nI a + nI f).toNatClampNeg = 9 * a + f := fun f hf => ix9 (by omega) (by omega)
  refine lp_up (R := fun f => ∀ M', keepB M M' A a → (∀ g, g < A.1 0 → ¬ a.testBit g = true → M' 25 (9 * a + g) = nI (cntB (bxB A l a g) (if g < f then so + 1 else so))) → (∀ s, s < so + 1 → s &&& a = s → (M' 27 s = 0 ↔ ¬ fstB A l a s)) → R129 (nI f) M') (A.1 0) ?_ ?_ 0 (Nat.zero_le _) M1 k1 (fun g hg hb => by rw [if_neg (Nat.not_lt_zero g)]; exact k2 g hg hb) k3
  · intro M3 k1 k2 k3
    refine h129 _ _ ?_
    rw [k1.1.facts]
    exact br_t (nI_le (Nat.le_refl _) (by omega)) (next M3 k1 (fun g hg hb => by have := k2 g hg hb; rw [if_pos hg] at this; exact this) k3)
  · intro f hf ihf M3 k1 k2 k3
    refine h129 _ _ ?_
    rw [k1.1.facts]
    refine br_f (nI_ge hf (by omega)) ⟨fun z => absurd rfl z, fun _ => s12_has (by omega) (by omega) ?_⟩
    intro R180 h180
    have go : ∀ M', keepB M M' A a → (∀ g, g < A.1 0 → ¬ a.testBit g = true → M' 25 (9 * a + g) = nI (cntB (bxB A l a g) (if g < f + 1 then so + 1 else so))) → (∀ s, s < so + 1 → s &&& a = s → (M' 27 s = 0 ↔ ¬ fstB A l a s)) → R180 M' := fun M' q1 q2 q3 => h180 _ (by rw [nI_1]; exact ihf M' q1 q2 q3)
    have same : ∀ g, g ≠ f → (if g < f + 1 then so + 1 else so) = (if g < f then so + 1 else so) := fun g hg => by
      by_cases q : g < f
      · rw [if_pos q, if_pos (by omega)]
      · rw [if_neg q, if_neg (by omega)]
    refine br_j (fun hbit => go M3 k1 (fun g hg hb => ?_) k3) (fun hbit => s12_hangsOn k1.1 hl ha hso hf (fun hh => ?_) (fun hh => ?_))
    · rw [same g (fun e => hb (by rw [e]; exact hbit))]
      exact k2 g hg hb
    · have hm := (hang_iff hso hsub hf hbit).mp hh
      refine br_f (by decide) ⟨(ix f (by omega)).1, (ix f (by omega)).1, ?_⟩
      rintro M4 rfl
      rw [(ix f (by omega)).2]
      refine go _ (k1.up25 (by omega) _) (fun g hg hb => ?_) (fun s hs hs2 => by rw [up_of _ _ _ _ (by omega)]; exact k3 s hs hs2)
      rw [up_at]
      by_cases e : g = f
      · subst e
        have old := k2 g hg hb
        rw [if_neg (Nat.lt_irrefl _)] at old
        rw [if_pos rfl, if_pos (by omega), cntB_t (bxB_iff.mpr ⟨hsub, hm, hF⟩), old, nI_1]
      · rw [if_neg (by omega), same g e]
        exact k2 g hg hb
    · refine br_t rfl (go M3 k1 (fun g hg hb => ?_) k3)
      by_cases e : g = f
      · subst e
        have old := k2 g hg hb
        rw [if_neg (Nat.lt_irrefl _)] at old
        rw [if_pos (by omega), cntB_f (fun z => hh ((hang_iff hso hsub hf hbit).mpr (bxB_iff.mp z).2.1)), old]
      · rw [same g e]
        exact k2 g hg hb
theorem s12_layBoxes {P : jP} {M : jM} {A : aS} (h : RelM M A) {l a : Nat} (hl : l < A.1 2) (ha : a < 2 ^ A.1 0) {Q : jM → Prop} (hq : ∀ M', keepB M M' A a → (∀ f, f < A.1 0 → ¬ a.testBit f = true → M' 25 (9 * a + f) = nI (boxN A l a f)) → Q M') : w_X12_layBoxes P (nI l) (nI a) M Q := by
  have hC := h.C512
  have h9 := h.n9
  have h1n := h.n1
  have h6 := h.num
  unfold wfNum at h6
  have ix : ∀ f, f < 9 → vp_in ((9 : Int32) * nI a + nI f) 4608 ∧ ((9 : Int32) * nI a + nI f).toNatClampNeg = 9 * a + f := fun f hf => ix9 (by omega) (by omega)
  unfold w_X12_layBoxes
  intro R2 h2
  refine lp_up (R := fun f => ∀ M', keepB M M' A a → (∀ g, g < f → M' 25 (9 * a + g) = 0) → R2 (nI f) M') (A.1 0) ?_ ?_ 0 (Nat.zero_le _) M ⟨h, fun _ _ _ => rfl, fun _ _ => rfl⟩ (fun g hg => absurd hg (Nat.not_lt_zero g))
  · intro M1 hk1 hz
    refine h2 _ _ ?_
    rw [hk1.1.facts]
    refine br_t (nI_le (Nat.le_refl _) (by omega)) ?_
    intro R30 h30
    refine lp_up (R := fun so => ∀ M', keepB M M' A a → (∀ g, g < A.1 0 → ¬ a.testBit g = true → M' 25 (9 * a + g) = nI (cntB (bxB A l a g) so)) → (∀ s, s < so → s &&& a = s → (M' 27 s = 0 ↔ ¬ fstB A l a s)) → R30 (nI so) M') (2 ^ A.1 0) ?_ ?_ 0 (Nat.zero_le _) M1 hk1 (fun g hg _ => hz g hg) (fun s hs => absurd hs (Nat.not_lt_zero s))
    · intro M2 hk hc _
      refine h30 _ _ ?_
      rw [hk.1.cases]
      exact br_t (nI_le (Nat.le_refl _) (by omega)) (hq M2 hk hc)
    · intro so hso ih M2 hk hc ho
      refine h30 _ _ ?_
      rw [hk.1.cases]
      refine br_f (nI_ge hso (by omega)) ?_
      intro R186 h186
      have next : ∀ M', keepB M M' A a → (∀ g, g < A.1 0 → ¬ a.testBit g = true → M' 25 (9 * a + g) = nI (cntB (bxB A l a g) (so + 1))) → (∀ s, s < so + 1 → s &&& a = s → (M' 27 s = 0 ↔ ¬ fstB A l a s)) → R186 M' := fun M' k1 k2 k3 => h186 _ (by rw [nI_1]; exact ih M' k1 k2 k3)
      rw [sub_iff (show so < 4096 by omega)]
      refine ⟨fun hsub => ?_, fun hsub => next M2 hk (fun g hg hb => by rw [cntB_f (fun z => hsub (bxB_iff.mp z).1)]; exact hc g hg hb) (fun s hs hs2 => ?_)⟩
      · intro R55 h55
        by_cases hF : fstB A l a so
        · refine lp_up (R := fun b => R55 0 (nI b)) so ?_ ?_ 0 (Nat.zero_le _)
          · refine h55 _ _ ?_
            intro R110 h110
            refine br_t (nI_le (Nat.le_refl _) (by omega)) (h110 ?_)
            intro R125 h125
            refine ⟨fun z => absurd rfl z, fun _ => h125 _ ⟨vin (by omega) (by omega), jb_1, ?_⟩⟩
            rw [nI_clamp (show so < 2 ^ 31 by omega)]
            intro R129 h129
            refine boxes_fill h.1 hl ha hso hsub hF next h129 (hk.up27 so 1) (fun g hg hb => by rw [up_of _ _ _ _ (by omega)]; exact hc g hg hb) (fun s hs hs2 => ?_)
            rw [up_at]
            by_cases e : s = so
            · subst e
              rw [if_pos rfl]
              exact ⟨fun z => absurd z (by decide), fun z => absurd hF z⟩
            · rw [if_neg e]
              exact ho s (by omega) hs2
          · intro b hb ihb
            refine h55 _ _ ?_
            intro R110 h110
            refine br_f (nI_ge hb (by omega)) ⟨fun z => absurd rfl z, fun _ => ?_⟩
            intro R102 h102
            have nxt : R102 0 := h102 _ (by rw [nI_1]; exact ihb)
            rw [sub_iff (show b < 4096 by omega)]
            refine ⟨fun _ => nxt, fun z => ⟨vin (by omega) (by omega), br_c (fun _ => nxt) (fun _ => s12_goesAlike hk.1 hl ha hso (by omega) (fun y => absurd y (hF b hb z)) (fun _ => br_t rfl nxt))⟩⟩
        · have key1 : ∀ x, R55 1 x := fun x => by
            refine h55 _ _ (fun R110 h110 => ?_)
            have r : R110 := by
              refine h110 ?_
              intro R125 h125
              refine ⟨fun _ => h125 _ ⟨vin (by omega) (by omega), jb_0, ?_⟩, fun z => absurd z (by decide)⟩
              rw [nI_clamp (show so < 2 ^ 31 by omega)]
              intro R129 h129
              have fin : R186 (upM M2 27 so 0) := by
                refine next _ (hk.up27 so 0) (fun g hg hb => ?_) (fun s hs hs2 => ?_)
                · rw [up_of _ _ _ _ (by omega), cntB_f (fun z => hF (bxB_iff.mp z).2.2)]
                  exact hc g hg hb
                · rw [up_at]
                  by_cases e : s = so
                  · subst e
                    rw [if_pos rfl]
                    exact ⟨fun _ => hF, fun _ => rfl⟩
                  · rw [if_neg e]
                    exact ho s (by omega) hs2
              exact h129 _ _ ⟨fun _ => fin, fun _ => ⟨fun _ => fin, fun z => absurd z (by decide)⟩⟩
            exact ⟨fun _ => r, fun _ => ⟨fun _ => r, fun z => absurd z (by decide)⟩⟩
          refine lp_up (R := fun b => (∀ d, d < b → ¬ (d &&& a = d ∧ fstB A l a d ∧ alk A l a so d)) → R55 0 (nI b)) so (fun H => absurd (fst_of H) hF) ?_ 0 (Nat.zero_le _) (fun d hd => absurd hd (Nat.not_lt_zero d))
          intro b hb ihb H
          refine h55 _ _ ?_
          intro R110 h110
          refine br_f (nI_ge hb (by omega)) ⟨fun z => absurd rfl z, fun _ => ?_⟩
          intro R102 h102
          have nxt : ¬ (b &&& a = b ∧ fstB A l a b ∧ alk A l a so b) → R102 0 := fun hn => h102 _ (by
            rw [nI_1]
            refine ihb (fun d hd => ?_)
            rcases Nat.lt_succ_iff_lt_or_eq.mp hd with q | q
            · exact H d q
            · subst q; exact hn)
          rw [sub_iff (show b < 4096 by omega)]
          refine ⟨fun z => nxt (fun y => z y.1), fun z => ⟨vin (by omega) (by omega), ?_⟩⟩
          rw [nI_clamp (show b < 2 ^ 31 by omega)]
          refine br_c (fun y => nxt (fun w => (ho b hb z).mp y w.2.1)) (fun y => s12_goesAlike hk.1 hl ha hso (by omega) (fun w => br_f (by decide) (h102 _ (key1 _))) (fun w => br_t rfl (nxt (fun u => w u.2.2))))
      · rcases Nat.lt_succ_iff_lt_or_eq.mp hs with q | q
        · exact ho s q hs2
        · subst q; exact absurd hs2 hsub
  · intro f hf ih M1 hk1 hz
    refine h2 _ _ ?_
    rw [hk1.1.facts]
    refine br_f (nI_ge hf (by omega)) ⟨(ix f (by omega)).1, ?_⟩
    rintro M2 rfl
    rw [(ix f (by omega)).2, nI_1]
    refine ih _ (hk1.up25 (by omega) 0) (fun g hg => ?_)
    rw [up_at]
    by_cases e : g = f
    · rw [if_pos (by omega)]
    · rw [if_neg (by omega)]
      exact hz g (by omega)
