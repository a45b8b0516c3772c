/-! text: the reference's side -/
def refLaw (A : aS) (n : Nat) (o : Nat → Nat) (cv uv : Nat → Nat → Bool) : Prop := ∀ (P : jP) (c : Nat) (M : jM) (Q : jM → Prop), c < 512 → RelW M A → (∀ M', g12 0 M M' → M' 1 6 = -1 → M' 1 10 = nI n → M' 1 11 = nI (hN n cv uv c) → (∀ j, j < n → M' 3 j = nI (o j)) → Q M') → w_X12_readLaw P (nI c) M Q
/-- so far the new law is laid -/
def layI (A : aS) (n : Nat) (o : Nat → Nat) (cv uv : Nat → Nat → Bool) (c : Nat) (M : jM) : Prop := (∀ k j, pA A k j → M k j = if (k = 8 ∨ k = 9) ∧ 512 * A.1 2 ≤ j ∧ j < 512 * A.1 2 + c then (lawA A n o cv uv).2 k j else A.2 k j) ∧ (0 < c → M 1 10 = nI n ∧ ∀ j, j < n → M 3 j = nI (o j))
theorem layI.w {A : aS} {n : Nat} {o : Nat → Nat} {cv uv : Nat → Nat → Bool} {c : Nat} {M : jM} (hA : wfA A) (h : layI A n o cv uv c M) : RelW M A := ⟨hA, fun k j hp hk => by rw [h.1 k j hp, if_neg (by omega)]⟩
theorem s12_layLaw {P : jP} {A : aS} {n : Nat} {o : Nat → Nat} {cv uv : Nat → Nat → Bool} {M : jM} (hR : RelM M A) (hr : refLaw A n o cv uv) (hl : A.1 2 < 6) (h1 : 1 ≤ n) (h12 : n ≤ 12) {Q : jM → Prop} (hq : ∀ M', (∀ k j, pA A k j → k ≠ 1 → M' k j = (lawA A n o cv uv).2 k j) → (∀ j, pA A 1 j → M' 1 j = A.2 1 j) → Q M') : w_X12_layLaw P M Q := by
  have hA := hR.1
  have h6 := hR.num
  unfold wfNum at h6
  have C := hR.cases
  have C5 := two_le hR.n9
  have pA' : ∀ k j, (8 ≤ k ∧ k ≤ 18) → pA A k j := fun k j h => by unfold pA; omega
  unfold w_X12_layLaw
  intro R2 h2
  refine lp_up (R := fun c => ∀ M, layI A n o cv uv c M → R2 (nI c) M) (2 ^ A.1 0) (fun M1 hI => ?_) (fun c hc ih M1 hI => ?_) 0 (Nat.zero_le _) M ⟨fun k j hp => by rw [if_neg (by omega)]; exact hR.2 k j hp, fun z => absurd z (Nat.lt_irrefl 0)⟩
  · have e2 : M1 1 2 = nI (2 ^ A.1 0) := by rw [hI.1 1 2 (by unfold pA; omega), if_neg (by omega)]; exact hA.2.1.2.1
    have e25 : M1 1 25 = nI (A.1 2) := by rw [hI.1 1 25 (by unfold pA; omega), if_neg (by omega)]; exact hA.2.1.2.2.2.1
    obtain ⟨e10, e3⟩ := hI.2 (Nat.two_pow_pos _)
    refine h2 _ _ (br_t (by rw [e2]; exact Int32.le_refl _) ?_)
    rw [e25, nI_clamp (show A.1 2 < 2 ^ 31 by omega), e10]
    refine ⟨vin hl (by omega), ?_⟩
    rintro M5 rfl
    intro R95 h95
    -- the outcomes
    refine lp_up (R := fun k => ∀ M, (∀ q, q ≠ 11 → M q = (upM M1 10 (A.1 2) (nI n)) q) → (∀ j, M 11 j = if 12 * A.1 2 ≤ j ∧ j < 12 * A.1 2 + k then nI (o (j - 12 * A.1 2)) else A.2 11 j) → R95 (nI k) M) n (fun M2 g1 g2 => ?_) (fun k hk ih M2 g1 g2 => ?_) 0 (Nat.zero_le _) _ (fun q _ => rfl) (fun j => by rw [up_of _ _ _ _ (by omega), if_neg (by omega), hI.1 11 j (pA' 11 j (by omega)), if_neg (by omega)])
    · have f10 : M2 1 10 = nI n := by rw [g1 1 (by omega), up_of _ _ _ _ (by omega)]; exact e10
      refine h95 _ _ (br_t (by rw [f10]; exact Int32.le_refl _) (hq M2 (fun k j hp hk1 => ?_) (fun j hp => ?_)))
      · by_cases z11 : k = 11
        · subst z11
          rw [g2 j]
          rfl
        · rw [g1 k z11]
          by_cases z10 : k = 10
          · subst z10
            rw [up_at]
            show _ = if j = A.1 2 then nI n else A.2 10 j
            by_cases y : j = A.1 2
            · rw [if_pos y, if_pos y]
            · rw [if_neg y, if_neg y, hI.1 10 j hp, if_neg (by omega)]
          · rw [up_of _ _ _ _ z10, hI.1 k j hp]
            by_cases y : (k = 8 ∨ k = 9) ∧ 512 * A.1 2 ≤ j ∧ j < 512 * A.1 2 + 2 ^ A.1 0
            · rw [if_pos y]
            · rw [if_neg y]
              by_cases z8 : k = 8
              · subst z8
                show _ = if 512 * A.1 2 ≤ j ∧ j < 512 * A.1 2 + 2 ^ A.1 0 then _ else A.2 8 j
                rw [if_neg (fun t => y ⟨Or.inl rfl, t⟩)]
              · by_cases z9 : k = 9
                · subst z9
                  show _ = if 512 * A.1 2 ≤ j ∧ j < 512 * A.1 2 + 2 ^ A.1 0 then _ else A.2 9 j
                  rw [if_neg (fun t => y ⟨Or.inr rfl, t⟩)]
                · exact (congrFun (lawT_ne (A := A) (n := n) (o := o) (cv := cv) (uv := uv) (k := k) (by omega)) j).symm
      · rw [g1 1 (by omega), up_of _ _ _ _ (by omega), hI.1 1 j hp, if_neg (by omega)]
    · have f10 : M2 1 10 = nI n := by rw [g1 1 (by omega), up_of _ _ _ _ (by omega)]; exact e10
      have f25 : M2 1 25 = nI (A.1 2) := by rw [g1 1 (by omega), up_of _ _ _ _ (by omega)]; exact e25
      have f3 : M2 3 k = nI (o k) := by rw [g1 3 (by omega), up_of _ _ _ _ (by omega)]; exact e3 k hk
      refine h95 _ _ (br_f (by rw [f10]; exact nI_ge hk (by omega)) ⟨vin (by omega) (by omega), ?_⟩)
      rw [f25, nI_clamp (show k < 2 ^ 31 by omega), f3, show (12 : Int32) = nI 12 from rfl, pk_mul, nI_add, nI_clamp (show 12 * A.1 2 + k < 2 ^ 31 by omega)]
      refine ⟨vin (by omega) (by omega), ?_⟩
      rintro M11 rfl
      rw [nI_1]
      refine ih _ (fun q hq2 => by rw [upM_ne _ _ _ hq2]; exact g1 q hq2) (fun j => ?_)
      rw [up_at]
      by_cases y : j = 12 * A.1 2 + k
      · rw [if_pos y, if_pos (by omega), y, show 12 * A.1 2 + k - 12 * A.1 2 = k by omega]
      · rw [if_neg y, g2 j]
        by_cases y2 : 12 * A.1 2 ≤ j ∧ j < 12 * A.1 2 + k
        · rw [if_pos y2, if_pos (by omega)]
        · rw [if_neg y2, if_neg (by omega)]
  · have e2 : M1 1 2 = nI (2 ^ A.1 0) := by rw [hI.1 1 2 (by unfold pA; omega), if_neg (by omega)]; exact hA.2.1.2.1
    refine h2 _ _ (br_f (by rw [e2]; exact nI_ge hc (by omega)) (hr P c M1 _ (by omega) (hI.w hA) (fun M12 g f6 f10 f11 f3 => s_ntz ?_)))
    have e25 : M12 1 25 = nI (A.1 2) := by rw [g.2.1 25 (by omega) (by omega) (by omega), hI.1 1 25 (by unfold pA; omega), if_neg (by omega)]; exact hA.2.1.2.2.2.1
    have hlt := hN_lt n cv uv c
    have hp12 : (2 : Nat) ^ n ≤ 2 ^ 12 := Nat.pow_le_pow_right (by omega) h12
    rw [e25, f11, show (512 : Int32) = nI 512 from rfl, pk_mul, nI_add, nI_clamp (show 512 * A.1 2 + c < 2 ^ 31 by omega)]
    refine ⟨vin (by omega) (by omega), ?_⟩
    rintro M18 rfl
    have e25' : (upM M12 9 (512 * A.1 2 + c) (nI (hN n cv uv c))) 1 25 = nI (A.1 2) := by rw [up_of _ _ _ _ (by omega)]; exact e25
    have e11' : (upM M12 9 (512 * A.1 2 + c) (nI (hN n cv uv c))) 1 11 = nI (hN n cv uv c) := by rw [up_of _ _ _ _ (by omega)]; exact f11
    rw [e25', e11', pk_mul, nI_add]
    have M1g : ∀ k j, pA A k j → M12 k j = M1 k j := fun k j hp => by
      by_cases hk : k = 1
      · subst hk
        unfold pA at hp
        exact g.2.1 j (by omega) (by omega) (by omega)
      · rw [g.1 k hk (by intro z; subst z; unfold pA at hp; omega)]
    have last : ∀ v : Int32, v = (if hN n cv uv c = 0 then -1 else nI (o (lowb (hN n cv uv c)))) → ∀ (R73 : Int32 → Int32 → Prop), (∀ (x19 : Int32) (x20 : Int32), (vp_in x19 (3072) ∧ R2 (nI c + 1) (upM (upM M12 9 (512 * A.1 2 + c) (nI (hN n cv uv c))) 8 x19.toNatClampNeg x20)) → R73 x19 x20) → R73 (nI (512 * A.1 2 + c)) v := by
      intro v hv R73 h73
      refine h73 _ _ ⟨vin (by omega) (by omega), ?_⟩
      rw [nI_clamp (show 512 * A.1 2 + c < 2 ^ 31 by omega), nI_1]
      refine ih _ ⟨fun k j hp => ?_, fun _ => ⟨?_, fun j hj => ?_⟩⟩
      · by_cases z8 : k = 8
        · subst z8
          have el : (lawA A n o cv uv).2 8 j = if 512 * A.1 2 ≤ j ∧ j < 512 * A.1 2 + 2 ^ A.1 0 then (if hN n cv uv (j - 512 * A.1 2) = 0 then -1 else nI (o (lowb (hN n cv uv (j - 512 * A.1 2))))) else A.2 8 j := rfl
          rw [up_at]
          by_cases y : j = 512 * A.1 2 + c
          · rw [if_pos y, if_pos ⟨Or.inl rfl, by omega, by omega⟩, el, if_pos (by omega), y, show 512 * A.1 2 + c - 512 * A.1 2 = c by omega]
            exact hv
          · rw [if_neg y, up_of _ _ _ _ (by omega), M1g 8 j hp, hI.1 8 j hp]
            by_cases y2 : 512 * A.1 2 ≤ j ∧ j < 512 * A.1 2 + c
            · rw [if_pos ⟨Or.inl rfl, y2⟩, if_pos ⟨Or.inl rfl, by omega, by omega⟩]
            · rw [if_neg (fun t => y2 t.2), if_neg (fun t => y2 ⟨t.2.1, by omega⟩)]
        · rw [up_of _ _ _ _ z8]
          by_cases z9 : k = 9
          · subst z9
            have el : (lawA A n o cv uv).2 9 j = if 512 * A.1 2 ≤ j ∧ j < 512 * A.1 2 + 2 ^ A.1 0 then nI (hN n cv uv (j - 512 * A.1 2)) else A.2 9 j := rfl
            rw [up_at]
            by_cases y : j = 512 * A.1 2 + c
            · rw [if_pos y, if_pos ⟨Or.inr rfl, by omega, by omega⟩, el, if_pos (by omega), y, show 512 * A.1 2 + c - 512 * A.1 2 = c by omega]
            · rw [if_neg y, M1g 9 j hp, hI.1 9 j hp]
              by_cases y2 : 512 * A.1 2 ≤ j ∧ j < 512 * A.1 2 + c
              · rw [if_pos ⟨Or.inr rfl, y2⟩, if_pos ⟨Or.inr rfl, by omega, by omega⟩]
              · rw [if_neg (fun t => y2 t.2), if_neg (fun t => y2 ⟨t.2.1, by omega⟩)]
          · rw [up_of _ _ _ _ z9, M1g k j hp, hI.1 k j hp, if_neg (by omega), if_neg (by omega)]
      · rw [up_of _ _ _ _ (by omega), up_of _ _ _ _ (by omega)]; exact f10
      · rw [up_of _ _ _ _ (by omega), up_of _ _ _ _ (by omega)]; exact f3 j hj
    intro R73 h73
    have zi : nI (hN n cv uv c) = 0 ↔ hN n cv uv c = 0 := nI_eq (b := 0) (by omega) (by omega)
    refine bn_c (fun z => ?_) (fun z => last (-1) (by rw [if_pos (zi.mp z)]) R73 h73)
    have hne : hN n cv uv c ≠ 0 := fun y => z (zi.mpr y)
    have hb := lowb_lt n h12 _ hlt hne
    rw [ntz_small _ (by omega) hne, nI_clamp (show lowb (hN n cv uv c) < 2 ^ 31 by omega)]
    refine ⟨vin (by omega) (by omega), last _ ?_ R73 h73⟩
    rw [if_neg hne, up_of _ _ _ _ (by omega)]
    exact f3 _ hb
def tb12 (P : jP) (a1 : Int32) (M6 : jM) (Q : Int32 → jM → Prop) : Prop := ∀ R74 : jM → Prop, (∀ (M9 : jM), (∀ R115 : jM → Prop, (∀ (M10 : jM), (∀ R128 : jM → Prop, (∀ (M11 : jM), ((¬ a1 = 0 → ((¬ a1 = 1 → (∀ M14 : jM, M14 = upM (upM M11 1 4 0) 1 27 (((upM M11 1 4 0) 1 27) + 1) → Q ((M14 1 27) - 1) M14)) ∧ (a1 = 1 → (∀ M15 : jM, M15 = upM (upM M11 1 4 0) 1 26 (((upM M11 1 4 0) 1 26) + 1) → Q ((M15 1 26) - 1) M15)))) ∧ (a1 = 0 → (∀ M16 : jM, M16 = upM (upM M11 1 4 0) 1 25 (((upM M11 1 4 0) 1 25) + 1) → Q ((M16 1 25) - 1) M16))) → R128 M11) → (¬ a1 = 2 → (R128 M10)) ∧ (a1 = 2 → (w_X12_readForm P (M10 1 27) M10 (fun M18 => R128 M18)))) → R115 M10) → (¬ a1 = 1 → (R115 M9)) ∧ (a1 = 1 → (∀ R81 : Int32 → jM → Prop, (∀ (x21 : Int32) (M22 : jM), (((M22 1 2) ≤ x21 → (R115 M22)) ∧ (¬ (M22 1 2) ≤ x21 → (w_X12_readQuestion P x21 M22 (fun r24 M25 => vp_in ((512 * (M22 1 26)) + x21) (5120) ∧ jb r24 ∧ ∀ M29 : jM, M29 = upM M25 14 ((512 * (M22 1 26)) + x21).toNatClampNeg r24 → R81 (x21 + 1) M29)))) → R81 x21 M22) → R81 0 M9))) → R74 M9) → (¬ a1 = 0 → (R74 M6)) ∧ (a1 = 0 → (w_X12_layLaw P M6 (fun M31 => R74 M31)))
theorem s12_textTop {P : jP} {A : aS} {M : jM} (hR : RelM M A) {s : Nat} (hs : s ≤ 2) (hc : (s = 0 → A.1 2 < 6) ∧ (s = 1 → A.1 3 < 10) ∧ (s = 2 → A.1 4 < 6)) {Q : Int32 → jM → Prop} (h : w_X12_fault P (nI s) (upM M 1 0 0) (fun r5 M6 => (r5 = (-1) → tb12 P (nI s) M6 Q) ∧ (¬ r5 = (-1) → Q (-1) M6))) : w_X12_text P (nI s) M Q := by
  have n0 : ¬ nI s < 0 := nI_pos (by omega)
  have n2 : nI s ≤ 2 := nI_le (b := 2) hs (by omega)
  have h6 := hR.num
  unfold wfNum at h6
  unfold w_X12_text
  refine s12_isIn ?_
  rw [bi_t ⟨n0, Int32.not_lt.mpr n2⟩]
  refine br_f (by decide) ?_
  intro R27 h27
  have i0 : nI s = 0 ↔ s = 0 := nI_eq (b := 0) (by omega) (by omega)
  have i1 : nI s = 1 ↔ s = 1 := nI_eq (b := 1) (by omega) (by omega)
  have i2 : nI s = 2 ↔ s = 2 := nI_eq (b := 2) (by omega) (by omega)
  have e25 : (upM M 1 0 0) 1 25 = nI (A.1 2) := by rw [up_at, if_neg (by omega)]; exact hR.laws
  have e26 : (upM M 1 0 0) 1 26 = nI (A.1 3) := by rw [up_at, if_neg (by omega)]; exact hR.qs
  have e27 : (upM M 1 0 0) 1 27 = nI (A.1 4) := by rw [up_at, if_neg (by omega)]; exact hR.forms
  have f27 : R27 := by
    refine h27 ?_
    intro R41 h41
    have f41 : R41 := by
      refine h41 ?_
      intro R55 h55
      have f55 : R55 := h55 h
      refine bn_c (fun _ => f55) (fun z => br_f ?_ f55)
      rw [e27, show (6 : Int32) = nI 6 from rfl, nI_eq (by omega) (by omega)]
      have := hc.2.2 (i2.mp z)
      omega
    refine bn_c (fun _ => f41) (fun z => br_f ?_ f41)
    rw [e26, show (10 : Int32) = nI 10 from rfl, nI_eq (by omega) (by omega)]
    have := hc.2.1 (i1.mp z)
    omega
  refine bn_c (fun _ => f27) (fun z => br_f ?_ f27)
  rw [e25, show (6 : Int32) = nI 6 from rfl, nI_eq (by omega) (by omega)]
  have := hc.1 (i0.mp z)
  omega
theorem s12_textFull {P : jP} {A : aS} {M : jM} (hR : RelM M A) {s : Nat} (hs : s ≤ 2) (hc : (s = 0 ∧ A.1 2 = 6) ∨ (s = 1 ∧ A.1 3 = 10) ∨ (s = 2 ∧ A.1 4 = 6)) {Q : Int32 → jM → Prop} (hq : ∀ M', RelM M' A → Q (-1) M') : w_X12_text P (nI s) M Q := by
  have n0 : ¬ nI s < 0 := nI_pos (by omega)
  have n2 : nI s ≤ 2 := nI_le (b := 2) hs (by omega)
  have h6 := hR.num
  unfold wfNum at h6
  unfold w_X12_text
  refine s12_isIn ?_
  rw [bi_t ⟨n0, Int32.not_lt.mpr n2⟩]
  refine br_f (by decide) ?_
  intro R27 h27
  have e25 : (upM M 1 0 0) 1 25 = nI (A.1 2) := by rw [up_at, if_neg (by omega)]; exact hR.laws
  have e26 : (upM M 1 0 0) 1 26 = nI (A.1 3) := by rw [up_at, if_neg (by omega)]; exact hR.qs
  have e27 : (upM M 1 0 0) 1 27 = nI (A.1 4) := by rw [up_at, if_neg (by omega)]; exact hR.forms
  have fin := hq _ (hR.thr 0)
  rcases hc with ⟨rfl, h⟩ | ⟨rfl, h⟩ | ⟨rfl, h⟩
  · exact bn_t rfl (br_t (by rw [e25, h]; rfl) fin)
  · refine bn_f (by decide) (h27 ?_)
    intro R41 h41
    exact bn_t rfl (br_t (by rw [e26, h]; rfl) fin)
  · refine bn_f (by decide) (h27 ?_)
    intro R41 h41
    refine bn_f (by decide) (h41 ?_)
    intro R55 h55
    exact bn_t rfl (br_t (by rw [e27, h]; rfl) fin)
theorem s12_textOut {P : jP} {A : aS} {M : jM} (hR : RelM M A) {x : Int32} (hx : x < 0 ∨ ¬ x ≤ 2) {Q : Int32 → jM → Prop} (hq : ∀ M', RelM M' A → Q (-1) M') : w_X12_text P x M Q := by
  unfold w_X12_text
  refine s12_isIn ?_
  have hb : ¬ (¬ x < 0 ∧ ¬ 2 < x) := fun z => by
    rcases hx with h | h
    · exact z.1 h
    · exact h (Int32.not_lt.mp z.2)
  rw [bi_f hb]
  exact br_t rfl (hq _ (hR.thr 0))
