/-! boxes: the class's stamps -/
def StampOK (P : jP) (M : jM) (B : Nat) : Prop := ∃ s : Nat, s ≤ B ∧ M 5 6 = nI s ∧ ∀ i, i < P.2.2 3 → ∃ v : Nat, v ≤ s ∧ M 23 i = nI v
def WayB (M : jM) (A : aS) (l : Nat) : Prop := ∀ kn so, kn < 2 ^ A.1 0 → so < 2 ^ A.1 0 → so &&& kn = so → ∃ w : Nat, w < sideN (A.1 0) ∧ M (64 + 8 * l + 4) (sum3 kn + sum3 so) = nI w
def agS (M M' : jM) : Prop := (∀ k, k ≠ 5 → k ≠ 23 → M' k = M k) ∧ ∀ j, j ≠ 6 → M' 5 j = M 5 j
theorem agS.refl (M : jM) : agS M M := ⟨fun _ _ _ => rfl, fun _ _ => rfl⟩
theorem agS.trans {M M' M2 : jM} (h : agS M M') (h' : agS M' M2) : agS M M2 := ⟨fun k a b => (h'.1 k a b).trans (h.1 k a b), fun j a => (h'.2 j a).trans (h.2 j a)⟩
theorem RelC.agS {P : jP} {M M' : jM} {A : aS} (h : RelC P M A) (g : agS M M') : RelC P M' A := by
  refine h.agree (fun k j hk => ?_) (fun k j hk => ?_)
  · by_cases e5 : k = 5
    · subst e5
      have hj : j = 1 := hk
      exact g.2 j (by omega)
    · by_cases e23 : k = 23
      · subst e23
        exact absurd hk (fun z => z)
      · rw [g.1 k e5 e23]
  · have := pCd_ge hk
    rw [g.1 k (by omega) (by omega)]
theorem side_le {n : Nat} (hn : n ≤ 9) : 49 ≤ sideN n ∧ sideN n ≤ 135 := by
  have := two_le hn
  unfold sideN
  omega
theorem side_sq {n : Nat} (hn : n ≤ 9) : sideN n ≤ sideN n * sideN n ∧ sideN n * sideN n ≤ 18225 := by
  have h := side_le hn
  have h1 := Nat.mul_le_mul h.2 h.2
  have h2 := Nat.mul_le_mul_left (sideN n) (show 1 ≤ sideN n by omega)
  omega
theorem RelC.z3 {P : jP} {M : jM} {A : aS} (h : RelC P M A) : P.2.2 3 = sideN (A.1 0) * sideN (A.1 0) := h.2.1.2.2.2.1
theorem WayE.agS {M M' : jM} {A : aS} {l : Nat} (h : WayE M A l) (g : agS M M') : WayE M' A l := by
  unfold WayE
  rw [g.1 (64 + 8 * l + 4) (by omega) (by omega)]
  exact h
theorem WayB.agS {M M' : jM} {A : aS} {l : Nat} (h : WayB M A l) (g : agS M M') : WayB M' A l := by
  unfold WayB
  rw [g.1 (64 + 8 * l + 4) (by omega) (by omega)]
  exact h
theorem s11_boxes {P : jP} {M : jM} {A : aS} (h : RelC P M A) {l a f B : Nat} (hl : l < A.1 2) (hE : WayE M A l) (hW : WayB M A l) (hS : StampOK P M B) (hB : B < 2 ^ 30) (ha : a < 2 ^ A.1 0) (hf : f < A.1 0) (hb : ¬ a.testBit f = true) {Q : Int32 → jM → Prop} (hq : ∀ M', agS M M' → StampOK P M' (B + 1) → Q (nI (boxN A l a f)) M') : w_X1_boxes P (64 + 8 * l) (nI a) (nI f) M Q := by
  have hC := h.C512
  have h9 := h.n9
  have hz := h.z3
  have hsq := side_sq h9
  obtain ⟨s, s1, s2, s3⟩ := hS
  unfold w_X1_boxes
  intro R19 h19
  have g0 : agS M (upM M 5 6 (M 5 6 + 1)) := ⟨fun k k1 _ => upM_ne _ _ _ k1, fun j hj => by rw [up_at, if_neg hj]⟩
  have start := lp_up (R := fun k => ∀ M', agS M M' → M' 5 6 = nI (s + 1) → (∀ i, i < P.2.2 3 → ∃ v : Nat, v ≤ s + 1 ∧ M' 23 i = nI v) → (∀ i, i < P.2.2 3 → (M' 23 i = nI (s + 1) ↔ ∃ b, b < cE a (2 ^ A.1 0) k ∧ b &&& a = b ∧ matY A l a b f ∧ M (64 + 8 * l + 4) (sum3 a + sum3 b) = nI i)) → R19 (nI (cntB (bxB A l a f) (cE a (2 ^ A.1 0) k))) (nI (pdE a k)) (nI k) M') (2 ^ popc a) ?_ ?_ 0 (Nat.zero_le _) _ g0 (by rw [up_at, if_pos rfl, s2, nI_1]) (fun i hi => ?_) (fun i hi => ?_)
  · rw [cE_0, pdE_0] at start
    exact start
  · intro M' g e6 hv _
    have hp := pow_popc (a := a)
    refine h19 _ _ _ _ (s_bc ?_)
    rw [shl_popc (show a < 4096 by omega), cE_e]
    exact br_t (nI_le (Nat.le_refl _) (by omega)) (hq M' g ⟨s + 1, by omega, e6, hv⟩)
  · intro k hk ih M' g e6 hv hi
    have hp := pow_popc (a := a)
    obtain ⟨e1, e2, e3, -⟩ := pd_step a (by omega) k hk
    have hbC : pd a k < 2 ^ A.1 0 := by omega
    have ep : pdE a k = pd a k := if_pos hk
    have ec : cE a (2 ^ A.1 0) k = pd a k := cE_t hk
    have hr := h.agS g
    obtain ⟨w, w1, w2⟩ := hW a (pd a k) ha hbC e2
    obtain ⟨p1, p2⟩ := place_in h hl ha hbC
    have hcnt := cntB_sub (p := bxB A l a f) (C := 2 ^ A.1 0) ha hC hk (fun c z => (bxB_iff.mp z).1)
    have hle := cntB_le (bxB A l a f) (pd a k)
    have hnx : ∀ c, c &&& a = c → (c < cE a (2 ^ A.1 0) (k + 1) ↔ c < pd a k ∨ c = pd a k) := fun c hc => by
      rw [cE_next ha hC hk hc, ec]
    refine h19 _ _ _ _ (s_bc ?_)
    rw [shl_popc (show a < 4096 by omega), ep, ec]
    refine br_f (nI_ge hk (by omega)) (s11_place hr ha hbC ⟨h.lw hl, p1, ?_⟩)
    rw [p2, g.1 (64 + 8 * l + 4) (by omega) (by omega), w2]
    refine s11_mattersAt hr hl (hE.agS g) ha hbC e2 hf hb (fun hm => ?_) (fun hm => ?_)
    · intro R100 h100
      have next : ∀ (x : Nat) M2, x = cntB (bxB A l a f) (cE a (2 ^ A.1 0) (k + 1)) → agS M M2 → M2 5 6 = nI (s + 1) → (∀ i, i < P.2.2 3 → ∃ v : Nat, v ≤ s + 1 ∧ M2 23 i = nI v) → (∀ i, i < P.2.2 3 → (M2 23 i = nI (s + 1) ↔ ∃ b, b < cE a (2 ^ A.1 0) (k + 1) ∧ b &&& a = b ∧ matY A l a b f ∧ M (64 + 8 * l + 4) (sum3 a + sum3 b) = nI i)) → R100 (nI x) M2 := fun x M2 ex q1 q2 q3 q4 => h100 _ _ (by rw [e1, nI_1, ex]; exact ih M2 q1 q2 q3 q4)
      have hwz : w < P.2.2 3 := by omega
      refine br_f (by decide) (br_f (show ¬ nI (P.2.2 3) ≤ nI w from nI_ge hwz (by omega)) ⟨vin hwz (by omega), ?_⟩)
      rw [nI_clamp (show w < 2 ^ 31 by omega), e6]
      refine br_c (fun z => next _ M' ?_ g e6 hv (fun i hi2 => ?_)) (fun z => ⟨vin hwz (by omega), ?_⟩)
      · obtain ⟨b, b1, b2, b3, b4⟩ := (hi w hwz).mp z
        rw [ec] at b1
        rw [hcnt, cntB_f]
        intro y
        exact (bxB_iff.mp y).2.2 b b1 b2 ((hE a (pd a k) b ha hbC (by omega) e2 b2).mp (w2.trans b4.symm))
      · rw [hi i hi2, ec]
        constructor
        · rintro ⟨b, b1, b2, b3, b4⟩
          exact ⟨b, (hnx b b2).mpr (Or.inl b1), b2, b3, b4⟩
        · rintro ⟨b, b1, b2, b3, b4⟩
          rcases (hnx b b2).mp b1 with q | q
          · exact ⟨b, q, b2, b3, b4⟩
          · subst q
            have ei : w = i := (nI_eq (by omega) (by omega)).mp (w2.symm.trans b4)
            subst ei
            have := (hi w hwz).mp z
            rw [ec] at this
            exact this
      · rintro M2 rfl
        have hno : ∀ b, b < pd a k → b &&& a = b → ¬ alk A l a (pd a k) b := fun b b1 b2 b3 => by
          refine z ((hi w hwz).mpr ⟨b, by rw [ec]; exact b1, b2, alk_mat hbC (by omega) e2 b2 hf hb b3 hm, ?_⟩)
          rw [← w2]
          exact ((hE a (pd a k) b ha hbC (by omega) e2 b2).mpr b3).symm
        have e56 : ∀ j, upM M' 23 w (nI (s + 1)) 5 j = M' 5 j := fun j => up_of _ _ _ _ (by omega)
        rw [nI_1]
        refine next _ _ ?_ (g.trans ⟨fun q _ q2 => upM_ne _ _ _ q2, fun j _ => e56 j⟩) (by rw [e56]; exact e6) (fun i hi2 => ?_) (fun i hi2 => ?_)
        · rw [hcnt, cntB_t (bxB_iff.mpr ⟨e2, hm, hno⟩)]
        · rw [up_at]
          by_cases q : i = w
          · rw [if_pos q]; exact ⟨s + 1, Nat.le_refl _, rfl⟩
          · rw [if_neg q]; exact hv i hi2
        · rw [up_at]
          by_cases q : i = w
          · rw [if_pos q, q]
            exact ⟨fun _ => ⟨pd a k, (hnx _ e2).mpr (Or.inr rfl), e2, hm, w2⟩, fun _ => rfl⟩
          · rw [if_neg q, hi i hi2, ec]
            constructor
            · rintro ⟨b, b1, b2, b3, b4⟩
              exact ⟨b, (hnx b b2).mpr (Or.inl b1), b2, b3, b4⟩
            · rintro ⟨b, b1, b2, b3, b4⟩
              rcases (hnx b b2).mp b1 with y | y
              · exact ⟨b, y, b2, b3, b4⟩
              · subst y
                exact absurd ((nI_eq (by omega) (by omega)).mp (b4.symm.trans w2)) q
    · intro R100 h100
      refine br_t rfl (h100 _ _ ?_)
      rw [e1, nI_1]
      have hx : cntB (bxB A l a f) (pd a k) = cntB (bxB A l a f) (cE a (2 ^ A.1 0) (k + 1)) := by
        rw [hcnt, cntB_f (fun y => hm (bxB_iff.mp y).2.1)]
      rw [hx]
      refine ih M' g e6 hv (fun i hi2 => ?_)
      rw [hi i hi2, ec]
      constructor
      · rintro ⟨b, b1, b2, b3, b4⟩
        exact ⟨b, (hnx b b2).mpr (Or.inl b1), b2, b3, b4⟩
      · rintro ⟨b, b1, b2, b3, b4⟩
        rcases (hnx b b2).mp b1 with y | y
        · exact ⟨b, y, b2, b3, b4⟩
        · subst y; exact absurd b3 hm
  · rw [up_of _ _ _ _ (by omega)]
    obtain ⟨v, v1, v2⟩ := s3 i hi
    exact ⟨v, by omega, v2⟩
  · rw [up_of _ _ _ _ (by omega), cE_0]
    obtain ⟨v, v1, v2⟩ := s3 i hi
    rw [v2]
    exact ⟨fun z => absurd ((nI_eq (by omega) (by omega)).mp z) (by omega), fun ⟨b, b1, _⟩ => absurd b1 (Nat.not_lt_zero b)⟩
