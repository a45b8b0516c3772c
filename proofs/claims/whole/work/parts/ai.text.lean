/-! TEXT, the class's side: a law kept -/
theorem rsl_none {k j : Nat} (h : kob k = none) : rsl k j = false := by
  unfold rsl
  rw [h]
theorem rsl_ob {k j d : Nat} {x : Nat × List Nat} (h : kob k = some x) (hj : x.2[j]? = some d) : rsl k j = !(Nat.beq d 0 || Nat.beq d 1000 || Nat.beq d 1001) := by
  unfold rsl
  rw [h]
  show (match x.2[j]? with | some d => !(Nat.beq d 0 || Nat.beq d 1000 || Nat.beq d 1001) | none => false) = _
  rw [hj]
theorem rsl_pCs {A : aS} {k j : Nat} (h : pCs A k j) : rsl k j = false := by
  rcases pCs_key h with rfl | rfl | rfl | rfl | rfl | rfl | rfl | rfl | rfl | rfl | rfl | rfl | rfl | rfl | rfl | rfl | rfl | rfl | rfl | rfl | rfl | rfl | rfl | rfl | rfl
  case inl => rcases h with rfl | rfl <;> rfl
  case inr.inl =>
    have h : j < 4 := h
    have : j = 0 ∨ j = 1 ∨ j = 2 ∨ j = 3 := by omega
    rcases this with rfl | rfl | rfl | rfl <;> rfl
  case inr.inr.inl =>
    have h : j = 1 := h
    subst h; rfl
  case inr.inr.inr.inl => rcases h with rfl | rfl <;> rfl
  case inr.inr.inr.inr.inl =>
    have h : j = 1 := h
    subst h; rfl
  case inr.inr.inr.inr.inr.inl => rcases h with rfl | rfl <;> rfl
  case inr.inr.inr.inr.inr.inr.inl => rcases h with rfl | rfl <;> rfl
  case inr.inr.inr.inr.inr.inr.inr.inl =>
    have h : j = 0 := h
    subst h; rfl
  case inr.inr.inr.inr.inr.inr.inr.inr.inl =>
    have h : j = 0 := h
    subst h; rfl
  all_goals rfl
theorem kob_form {f : Nat} (hf : f ≤ 6) : kob (128 + 4 * f) = some (2, [0, 128 + 4 * f + 1, 128 + 4 * f + 2, 128 + 4 * f + 3]) := by
  unfold kob
  rw [if_pos (by rw [Nat.ble_eq]; omega), if_neg (by simp only [Bool.and_eq_true, Nat.ble_eq, Nat.blt_eq]; omega), if_pos]
  simp only [Bool.and_eq_true, Nat.ble_eq, Nat.blt_eq]
  exact ⟨⟨by omega, by omega⟩, by rw [show (128 + 4 * f) % 4 = 0 by omega]; rfl⟩
theorem kob_frow {f r : Nat} (h1 : 1 ≤ r) (h3 : r ≤ 3) : kob (128 + 4 * f + r) = none := by
  unfold kob
  rw [if_pos (by rw [Nat.ble_eq]; omega), if_neg (by simp only [Bool.and_eq_true, Nat.ble_eq, Nat.blt_eq]; omega), if_neg]
  simp only [Bool.and_eq_true, Nat.ble_eq, Nat.blt_eq]
  intro z
  have := Nat.eq_of_beq_eq_true z.2
  omega
theorem rsl_pCd {A : aS} (hn : wfNum A) {k j : Nat} (h : pCd A k j) : rsl k j = false := by
  unfold wfNum at hn
  unfold pCd at h
  rcases h with ⟨k64, hlt, hr⟩ | ⟨k128, hlt, hr⟩
  · have ek : k = 64 + 8 * ((k - 64) / 8) + (k - 64) % 8 := by omega
    by_cases r0 : (k - 64) % 8 = 0
    · have j0 : j = 0 := by omega
      subst j0
      rw [ek, r0, Nat.add_zero]
      exact rsl_ob (j := 0) (d := 0) (kob_law (l := (k - 64) / 8) (by omega)) rfl
    · rw [ek]
      exact rsl_none (kob_lrow (by omega) (by omega) (by omega))
  · have ek : k = 128 + 4 * ((k - 128) / 4) + (k - 128) % 4 := by omega
    by_cases r0 : (k - 128) % 4 = 0
    · have j0 : j = 0 := by omega
      subst j0
      rw [ek, r0, Nat.add_zero]
      exact rsl_ob (j := 0) (d := 0) (kob_form (f := (k - 128) / 4) (by omega)) rfl
    · rw [ek]
      exact rsl_none (kob_frow (by omega) (by omega))
theorem RelC.f {P : jP} {M : jM} {A : aS} (h : RelC P M A) : RelC P (fM M) A := h.agree (fun k j hk => fM_no (rsl_pCs hk)) (fun k j hk => fM_no (rsl_pCd h.num hk))
theorem presX.presC {P : jP} {A : aS} (hn : wfNum A) (hz : P.2.2 0 = A.1 0 ∧ P.2.2 1 = 2 ^ A.1 0 ∧ P.2.2 2 = 3 ^ A.1 0 ∧ P.2.2 3 = sideN (A.1 0) * sideN (A.1 0)) (h : presX P A) : presC P A := by
  unfold wfNum at hn
  exact ⟨hz.1, hz.2.1, hz.2.2.1, hz.2.2.2, fun l r a b => (h _ (by omega)).mpr (Or.inr (Or.inl ⟨by omega, by omega, by omega⟩)), fun f r a b => (h _ (by omega)).mpr (Or.inr (Or.inr ⟨by omega, by omega⟩))⟩
/-- what a law says, by its clauses that hold -/
def outL (n : Nat) (o : Nat → Nat) (cv uv : Nat → Nat → Bool) (c : Nat) : Int32 := if hN n cv uv c = 0 then -1 else nI (o (lowb (hN n cv uv c)))
theorem RelC.addLaw {P P' : jP} {Mz MF : jM} {A : aS} {n : Nat} {o : Nat → Nat} {cv uv : Nat → Nat → Bool} (h : RelC P Mz A) (hl : A.1 2 < 6) (h12 : n ≤ 12) (wf : wfA (lawA A n o cv uv)) (hP : P'.2.2 = P.2.2) (hX : presX P' (lawA A n o cv uv))
    (m0 : ∀ k j, pCs A k j → k ≠ 1 → k ≠ 3 → k ≠ 11 → k ≠ 17 → MF k j = Mz k j) (m1 : MF 1 10 = nI (A.1 2 + 1)) (m12 : MF 1 12 = Mz 1 12) (m3 : MF 3 1 = 0) (m11 : ∀ j, MF 11 j = if j = A.1 2 then nI (64 + 8 * A.1 2) else Mz 11 j)
    (md : ∀ k, 64 ≤ k → ¬ (64 + 8 * A.1 2 ≤ k ∧ k ≤ 64 + 8 * A.1 2 + 4) → ∀ j, j ≠ 5 → j ≠ 6 → MF k j = Mz k j) (g0 : MF (64 + 8 * A.1 2) 0 = nI n) (g1 : ∀ j, j < n → MF (64 + 8 * A.1 2 + 1) j = nI (o j)) (g2 : ∀ c, c < 2 ^ A.1 0 → MF (64 + 8 * A.1 2 + 2) c = nI (hN n cv uv c)) (g3 : ∀ c, c < 2 ^ A.1 0 → MF (64 + 8 * A.1 2 + 3) c = outL n o cv uv c) (md2 : ∀ k, 64 ≤ k → ¬ (64 + 8 * A.1 2 ≤ k ∧ k ≤ 64 + 8 * A.1 2 + 4) → ((k - 64) % 8 ≠ 0 ∨ 128 ≤ k) → MF k = Mz k) : RelC P' MF (lawA A n o cv uv) := by
  have hn := h.num
  unfold wfNum at hn
  have C := h.C512
  have hz := h.2.1
  refine ⟨wf, hX.presC wf.1 (by rw [hP]; exact ⟨hz.1, hz.2.1, hz.2.2.1, hz.2.2.2.1⟩), fun k j hk => ?_, fun k j hk => ?_⟩
  · by_cases k1 : k = 1
    · subst k1
      rcases hk with rfl | rfl
      · exact m1
      · rw [m12]; exact h.formn
    · by_cases k3 : k = 3
      · subst k3
        have hj : j = 1 := hk
        subst hj
        exact m3
      · by_cases k11 : k = 11
        · subst k11
          have hj : j < A.1 2 + 1 := hk
          rw [m11]
          by_cases z : j = A.1 2
          · rw [if_pos z, z]; rfl
          · rw [if_neg z]
            exact h.law (by omega)
        · by_cases k17 : k = 17
          · subst k17
            have hj : j < 0 := hk
            omega
          · have both : pCs A k j ∧ cTs (lawA A n o cv uv) k j = cTs A k j := by
              rcases pCs_key hk with rfl | rfl | rfl | rfl | rfl | rfl | rfl | rfl | rfl | rfl | rfl | rfl | rfl | rfl | rfl | rfl | rfl | rfl | rfl | rfl | rfl | rfl | rfl | rfl | rfl
              all_goals first | exact ⟨hk, rfl⟩ | skip
              · exact absurd rfl k1
              · exact absurd rfl k3
              · exact absurd rfl k11
              · exact absurd rfl k17
            rw [m0 k j both.1 k1 k3 k11 k17, both.2]
            exact h.2.2.1 k j both.1
  · have T10 : ∀ i, (lawA A n o cv uv).2 10 i = if i = A.1 2 then nI n else A.2 10 i := fun i => rfl
    have T11 : ∀ i, (lawA A n o cv uv).2 11 i = if 12 * A.1 2 ≤ i ∧ i < 12 * A.1 2 + n then nI (o (i - 12 * A.1 2)) else A.2 11 i := fun i => rfl
    have T9 : ∀ i, (lawA A n o cv uv).2 9 i = if 512 * A.1 2 ≤ i ∧ i < 512 * A.1 2 + 2 ^ A.1 0 then nI (hN n cv uv (i - 512 * A.1 2)) else A.2 9 i := fun i => rfl
    have T8 : ∀ i, (lawA A n o cv uv).2 8 i = if 512 * A.1 2 ≤ i ∧ i < 512 * A.1 2 + 2 ^ A.1 0 then outL n o cv uv (i - 512 * A.1 2) else A.2 8 i := fun i => rfl
    have tn : ∀ k, k = 4 ∨ k = 5 ∨ k = 6 ∨ k = 7 → (lawA A n o cv uv).2 k = A.2 k := fun k hk => lawT_ne (by omega)
    have hk0 := hk
    unfold pCd at hk
    rcases hk with ⟨k64, hlt, hr⟩ | ⟨k128, hlt, hr⟩
    · have hlt : (k - 64) / 8 < A.1 2 + 1 := hlt
      have e0 : (lawA A n o cv uv).1 0 = A.1 0 := rfl
      rw [e0, T10] at hr
      by_cases hli : (k - 64) / 8 = A.1 2
      · rw [if_pos hli, nI_clamp (show n < 2 ^ 31 by omega)] at hr
        unfold cTd
        rw [if_pos (by omega), hli, T10, if_pos rfl]
        rcases hr with ⟨r, j0⟩ | ⟨r, j1⟩ | ⟨r, j1⟩ | ⟨r, j1⟩
        · have ek : k = 64 + 8 * A.1 2 := by omega
          rw [if_pos r, ek, j0]; exact g0
        · have ek : k = 64 + 8 * A.1 2 + 1 := by omega
          rw [if_neg (by omega), if_pos r, ek, T11, if_pos (by omega), show 12 * A.1 2 + j - 12 * A.1 2 = j by omega]; exact g1 j j1
        · have ek : k = 64 + 8 * A.1 2 + 2 := by omega
          rw [if_neg (by omega), if_neg (by omega), if_pos r, ek, T9, if_pos (by omega), show 512 * A.1 2 + j - 512 * A.1 2 = j by omega]; exact g2 j j1
        · have ek : k = 64 + 8 * A.1 2 + 3 := by omega
          rw [if_neg (by omega), if_neg (by omega), if_neg (by omega), ek, T8, if_pos (by omega), show 512 * A.1 2 + j - 512 * A.1 2 = j by omega]; exact g3 j j1
      · rw [if_neg hli] at hr
        have old : pCd A k j := by
          unfold pCd
          exact Or.inl ⟨k64, by omega, hr⟩
        obtain ⟨cl, c1, c2, c3, -⟩ := h.1.2.2.1 ((k - 64) / 8) (by omega)
        have eC : cTd (lawA A n o cv uv) k j = cTd A k j := by
          unfold cTd
          rw [if_pos (show k < 112 by omega), if_pos (show k < 112 by omega), T10, if_neg hli]
          rw [c3, nI_clamp (show cl < 2 ^ 31 by omega)] at hr
          rcases hr with ⟨r, j0⟩ | ⟨r, j1⟩ | ⟨r, j1⟩ | ⟨r, j1⟩
          · rw [if_pos r, if_pos r]
          · rw [if_neg (by omega), if_pos r, if_neg (by omega), if_pos r, T11, if_neg (by omega)]
          · rw [if_neg (by omega), if_neg (by omega), if_pos r, if_neg (by omega), if_neg (by omega), if_pos r, T9, if_neg (by omega)]
          · rw [if_neg (by omega), if_neg (by omega), if_neg (by omega), if_neg (by omega), if_neg (by omega), if_neg (by omega), T8, if_neg (by omega)]
        rw [eC]
        have em : MF k j = Mz k j := by
          by_cases r0 : (k - 64) % 8 = 0
          · exact md k k64 (by omega) j (by omega) (by omega)
          · rw [md2 k k64 (by omega) (Or.inl r0)]
        rw [em]
        exact h.2.2.2 k j old
    · have hlt : (k - 128) / 4 < A.1 4 := hlt
      rw [tn 7 (by omega)] at hr
      have old : pCd A k j := by
        unfold pCd
        exact Or.inr ⟨k128, hlt, hr⟩
      have eC : cTd (lawA A n o cv uv) k j = cTd A k j := by
        unfold cTd
        rw [if_neg (show ¬ k < 112 by omega), if_neg (show ¬ k < 112 by omega), tn 7 (by omega), tn 4 (by omega), tn 5 (by omega), tn 6 (by omega)]
      rw [eC, md2 k (by omega) (by omega) (Or.inr k128)]
      exact h.2.2.2 k j old
theorem s11_outG {P : jP} {M : jM} {g cl m : Nat} (hlw : cLw P g = true) (hia : cIA P (g + 1) = some 12) (hcl : M g 0 = nI cl) (h12 : cl ≤ 12) (hm : m < 2 ^ cl) {Q : Int32 → Prop} (q0 : m = 0 → Q (-1)) (q1 : m ≠ 0 → Q (M (g + 1) (lowb m))) : w_X4_outcomeOf P g (nI m) M Q := by
  have hm4 : m < 4096 := by
    have := Nat.pow_le_pow_right (show 0 < 2 by omega) h12
    omega
  unfold w_X4_outcomeOf w_X11_lowest
  refine s_bc ?_
  rw [low_small m hm4, hcl]
  refine ⟨hlw, ?_⟩
  by_cases h0 : m = 0
  · subst h0
    exact br_t (nI_le (a := cl) (b := lowb 0) (by have : lowb 0 = 32 := (by decide +kernel); omega) (by decide +kernel)) (q0 rfl)
  · have hb := lowb_lt cl h12 m hm h0
    refine br_f (nI_ge hb (by omega)) ⟨hlw, jin_of hia (by omega) (by omega), ?_⟩
    rw [nI_clamp (by omega)]
    exact q1 h0
