/-! text: the class, its pieces -/
theorem s11_seg {P : jP} {M : jM} {a b c : Nat} {val : Nat → Bool} (h : segOK (M 18) a b val) (hb : b ≤ 160) (hc : c < 512) {Q : Int32 → Prop} (hq : Q (bi (val c = true))) : w_X7_isSo P (nI a) (nI b) (nI c) M Q := by
  obtain ⟨L, rfl, h2, h3⟩ := h
  refine s11_isSo hb h2 ?_
  rw [(h3 c hc 0 0 (by omega)).1]
  exact hq
theorem s11_holds {P : jP} {M : jM} {n c : Nat} {o st un en : Nat → Nat} {cv uv : Nat → Nat → Bool} (h : clsOf M n o st un en cv uv) (h12 : n ≤ 12) (hen : ∀ j, j < n → en j ≤ 160) (hc : c < 512) {Q : Int32 → Prop} (hq : Q (nI (hN n cv uv c))) : w_X7_clausesThatHold P (nI c) M Q := by
  unfold w_X7_clausesThatHold
  intro R4 h4
  refine lp_up (R := fun j => R4 (nI (hN j cv uv c)) (nI j)) n ?_ (fun j hj ih => ?_) 0 (Nat.zero_le _)
  · exact h4 _ _ (br_t (by rw [h.1]; exact Int32.le_refl _) hq)
  · obtain ⟨e19, e20, e21, e22, sg, us⟩ := h.2 j hj
    have he := hen j hj
    have hlt := sg.lt
    have hue : un j ≤ en j := by
      rcases us with us | us
      · omega
      · have := us.lt; omega
    have v12' : vp_in (nI j) 12 := vin (by omega) (by omega)
    refine h4 _ _ (br_f (by rw [h.1]; exact nI_ge hj (by omega)) ⟨v12', v12', ?_⟩)
    rw [nI_clamp (show j < 2 ^ 31 by omega), e20, e21, e22, nI_1]
    have stp : hN (j + 1) cv uv c = hN j cv uv c + (if (cv j c && !uv j c) = true then 2 ^ j else 0) := rfl
    have or' : hN j cv uv c ||| 2 ^ j = hN j cv uv c + 2 ^ j := by
      have := hN_lt j cv uv c
      rw [Nat.or_comm, Nat.add_comm, show 2 ^ j = 2 ^ j * 1 by omega, ← Nat.two_pow_add_eq_or_of_lt this 1]
    rw [stp] at ih
    intro R52 h52
    have go : ∀ x6 : Int32, x6 = bi (uv j c = true) → R52 x6 := by
      rintro x6 rfl
      refine h52 _ ?_
      intro R85 h85
      refine br_j (fun z => h85 _ ?_) (fun z => ⟨v12', v12', s11_seg sg (by omega) hc (br_i (fun y => h85 _ ?_) (fun y => ?_))⟩)
      · rw [z] at ih
        simp only [Bool.not_true, Bool.and_false] at ih
        exact ih
      · have : cv j c = false := by cases e : cv j c with | true => exact absurd e y | false => rfl
        rw [this] at ih
        exact ih
      · rw [shl_1 (show j < 32 by omega), nI_or, or']
        refine h85 _ ?_
        have z' : uv j c = false := by cases e : uv j c with | true => exact absurd e z | false => rfl
        rw [y, z'] at ih
        exact ih
    rcases us with us | us
    · refine bn3 (nI_le (by omega) (by omega)) (go 0 ?_)
      rw [us.2 c]
      rfl
    · have := us.lt
      refine bn2 (nI_ge this (by omega)) ⟨v12', v12', s11_seg us he hc (br_i (fun y => go 0 ?_) (fun y => go 1 ?_))⟩
      · rw [bi_f y]
      · rw [bi_t y]
theorem s11_keepQ {P : jP} {M : jM} {A : aS} {n : Nat} {val : Nat → Bool} (hR : RelC P M A) (e3 : M 4 3 = nI n) (hn : n ≤ 160) (sg : segOK (M 18) 0 n val) {Q : Int32 → jM → Prop}
    (q1 : A.1 3 < 10 → ∀ M', (∀ q, q ≠ 38 → q ≠ 9 → q ≠ 39 → M' q = M q) → (∀ j, M' 38 j = if j = A.1 3 then 1 else M 38 j) → (∀ j, M' 9 j = if j = 0 then nI (A.1 3 + 1) else M 9 j) → (∀ c, M' 39 c = if c < 2 ^ A.1 0 ∧ val c = true then M 39 c ||| nI (2 ^ A.1 3) else M 39 c) → Q (nI (A.1 3)) M')
    (q0 : ¬ A.1 3 < 10 → Q (-1) M) : w_X11_keepQuestion P M Q := by
  have h6 := hR.num
  unfold wfNum at h6
  have C5 := hR.C512
  have e9 : M 9 0 = nI (A.1 3) := hR.2.2.1 9 0 rfl
  unfold w_X11_keepQuestion w_X6_added
  have i10 : nI (A.1 3) < 10 ↔ A.1 3 < 10 := nI_ltI (b := 10) (by omega) (by omega)
  rw [e9, i10]
  refine br_c (fun hl => ⟨vin hl (by omega), ?_⟩) (fun hl => bn3 rfl (q0 hl))
  rw [nI_clamp (show A.1 3 < 2 ^ 31 by omega)]
  rintro M3 rfl
  have e9' : (upM M 38 (A.1 3) 1) 9 0 = nI (A.1 3) := by rw [up_of _ _ _ _ (by omega)]; exact e9
  rw [e9', nI_1]
  refine bn2 (fun z => nI_ne1 (show A.1 3 < 2 ^ 31 by omega) z) ?_
  intro R15 h15
  refine lp_up (R := fun c => ∀ M2 : jM, (∀ q, q ≠ 39 → M2 q = (upM (upM M 38 (A.1 3) 1) 9 0 (nI (A.1 3 + 1))) q) → (∀ j, M2 39 j = if j < c ∧ val j = true then M 39 j ||| nI (2 ^ A.1 3) else M 39 j) → R15 (nI c) M2) (2 ^ A.1 0) (fun M2 g1 g2 => ?_) (fun c hc ih M2 g1 g2 => ?_) 0 (Nat.zero_le _) _ (fun _ _ => rfl) (fun j => by rw [if_neg (by omega), up_of _ _ _ _ (by omega), up_of _ _ _ _ (by omega)])
  · have f2 : M2 2 2 = nI (2 ^ A.1 0) := by rw [g1 2 (by omega), up_of _ _ _ _ (by omega), up_of _ _ _ _ (by omega)]; exact hR.cases
    refine h15 _ _ (br_t (by rw [f2]; exact Int32.le_refl _) (q1 hl M2 (fun q a b c => ?_) (fun j => ?_) (fun j => ?_) g2))
    · rw [g1 q c, upM_ne _ _ _ b, upM_ne _ _ _ a]
    · rw [g1 38 (by omega), up_of _ _ _ _ (by omega), up_at]
    · rw [g1 9 (by omega), up_at, up_of _ _ _ _ (by omega)]
  · have f2 : M2 2 2 = nI (2 ^ A.1 0) := by rw [g1 2 (by omega), up_of _ _ _ _ (by omega), up_of _ _ _ _ (by omega)]; exact hR.cases
    have f3 : M2 4 3 = nI n := by rw [g1 4 (by omega), up_of _ _ _ _ (by omega), up_of _ _ _ _ (by omega)]; exact e3
    have f18 : M2 18 = M 18 := by rw [g1 18 (by omega), upM_ne _ _ _ (by omega), upM_ne _ _ _ (by omega)]
    refine h15 _ _ (br_f (by rw [f2]; exact nI_ge hc (by omega)) ?_)
    unfold w_X7_questionHolds
    rw [f3]
    refine s11_seg (a := 0) (by rw [f18]; exact sg) hn (by omega) ⟨bi_jb, ?_⟩
    intro R52 h52
    have vc : vp_in (nI c) (P.2.2 1) := by rw [hR.z1]; exact vin hc (by omega)
    rw [nI_1] at h52
    refine br_i (fun y => h52 _ (ih M2 g1 (fun j => ?_))) (fun y => ⟨vc, vc, ?_⟩)
    · rw [g2 j]
      by_cases z : j < c ∧ val j = true
      · rw [if_pos z, if_pos ⟨by omega, z.2⟩]
      · by_cases z2 : j = c
        · subst z2
          rw [if_neg z, if_neg (fun t => y t.2)]
        · rw [if_neg z, if_neg (fun t => z ⟨by omega, t.2⟩)]
    · rw [nI_clamp (show c < 2 ^ 31 by omega), shl_1 (show A.1 3 < 32 by omega)]
      rintro M15 rfl
      refine h52 _ (ih _ (fun q hq => by rw [upM_ne _ _ _ hq]; exact g1 q hq) (fun j => ?_))
      rw [up_at]
      by_cases z : j = c
      · subst z
        rw [if_pos rfl, if_pos ⟨by omega, y⟩, g2 j, if_neg (fun t => Nat.lt_irrefl _ t.1)]
      · rw [if_neg z, g2 j]
        by_cases z2 : j < c ∧ val j = true
        · rw [if_pos z2, if_pos ⟨by omega, z2.2⟩]
        · rw [if_neg z2, if_neg (fun t => z2 ⟨by omega, t.2⟩)]
