/-! set: the class's side -/
theorem barred_up {A : aS} {n j x : Nat} (hj : j < n) (hn : n ≤ 9) (hx : x ≤ 1) : bitsN (fun f => (tabA A 15 j (nI x)).2 15 f == 1) n = andn (bitsN (fun f => A.2 15 f == 1) n) (2 ^ j) ||| x <<< j := by
  apply Nat.eq_of_testBit_eq
  intro i
  rw [Nat.testBit_or, andn, Nat.testBit_and, Nat.testBit_xor, bitsN_bit, bitsN_bit, tab_at, Nat.testBit_two_pow, Nat.testBit_shiftLeft]
  by_cases hi : i < n
  · have h12 : Nat.testBit 4095 i = true := by
      have : (4095 : Nat) = 2 ^ 12 - 1 := rfl
      rw [this, Nat.testBit_two_pow_sub_one]
      exact decide_eq_true (by omega)
    rw [h12, decide_eq_true hi]
    by_cases e : i = j
    · subst e
      rw [if_pos rfl]
      rcases (show x = 0 ∨ x = 1 by omega) with rfl | rfl
      · have : ¬ nI 0 = 1 := by decide
        simp [this]
      · have : nI 1 = 1 := rfl
        simp [this]
    · rw [if_neg e]
      have e1 : decide (j = i) = false := decide_eq_false (fun z => e z.symm)
      have e2 : (decide (j ≤ i) && x.testBit (i - j)) = false := by
        by_cases c : j ≤ i
        · have : x.testBit (i - j) = false := by
            apply Nat.testBit_lt_two_pow
            have := Nat.pow_le_pow_right (show 0 < 2 by omega) (show 1 ≤ i - j by omega)
            omega
          rw [this, Bool.and_false]
        · rw [decide_eq_false c, Bool.false_and]
      have e3 : (decide (i ≥ j) && x.testBit (i - j)) = false := e2
      rw [e1, e3]
      simp
  · have e3 : (decide (i ≥ j) && x.testBit (i - j)) = false := by
      have : x.testBit (i - j) = false := by
        apply Nat.testBit_lt_two_pow
        have := Nat.pow_le_pow_right (show 0 < 2 by omega) (show 1 ≤ i - j by omega)
        omega
      rw [this, Bool.and_false]
    rw [decide_eq_false hi, e3]
    simp
theorem s11_set {P : jP} {M : jM} {A : aS} (h : RelC P M A) {w a v : Int32} {Q : Int32 → jM → Prop} (hq : ∀ M', RelC P M' (setA A w a v) → (∀ k, k ≠ 6 → k ≠ 8 → k ≠ 27 → k ≠ 28 → k ≠ 38 → M' k = M k) → M' 8 = upd (M 8) 10 1 → Q (setS A w a v) M') : w_X11_set P w a v M Q := by
  have h6 := h.num
  unfold wfNum at h6
  have h8 := h.k8 10 1
  have u8 : ∀ k, k ≠ 6 → k ≠ 8 → k ≠ 27 → k ≠ 28 → k ≠ 38 → upM M 8 10 1 k = M k := fun k _ a _ _ _ => upM_ne _ _ _ a
  have v8 : upM M 8 10 1 8 = upd (M 8) 10 1 := upM_same _ _ _ _
  unfold w_X11_set w_X9_change w_X6_setMinutes
  generalize upM M 8 10 1 = M0 at h8 u8 v8 ⊢
  have bad : ¬ okE A w a v → jb 0 ∧ Q 0 M0 := fun z => by
    have := hq M0 (by rw [setA, if_neg z]; exact h8) u8 v8
    rw [setS, bi_f z] at this; exact ⟨jb_0, this⟩
  have good : ∀ k j x, (k = 6 ∨ k = 27 ∨ k = 28 ∨ k = 38) → okE A w a v → (∀ k' j', pCs (tabA A (setK w) a.toNatClampNeg v) k' j' → (pCs A k' j' ∧ cTs (tabA A (setK w) a.toNatClampNeg v) k' j' = cTs A k' j' ∧ upM M0 k j x k' j' = M0 k' j') ∨ upM M0 k j x k' j' = cTs (tabA A (setK w) a.toNatClampNeg v) k' j') → (∀ b, b = 1 ∨ b = 4 ∨ b = 5 ∨ b = 6 ∨ b = 7 ∨ b = 8 ∨ b = 9 ∨ b = 10 ∨ b = 11 → (tabA A (setK w) a.toNatClampNeg v).2 b = A.2 b) → jb 1 ∧ Q 1 (upM M0 k j x) := fun k j x hk ok hs hr => by
    have := hq (upM M0 k j x) (by
      rw [setA, if_pos ok]
      refine h8.step (okE_wf h8.1 ok) h8.2.1 hs (fun k' j' hk' => ?_)
      have := pCd_ge hk'
      refine ⟨?_, ?_, up_of _ _ _ _ (by omega)⟩
      · unfold pCd at hk' ⊢
        rw [hr 10 (by omega), hr 7 (by omega)] at hk'
        exact hk'
      · unfold cTd
        rw [hr 10 (by omega), hr 7 (by omega), hr 11 (by omega), hr 9 (by omega), hr 8 (by omega), hr 4 (by omega), hr 5 (by omega), hr 6 (by omega)]) (fun k' a1 a2 a3 a4 a5 => by rw [upM_ne _ _ _ (by omega), u8 k' a1 a2 a3 a4 a5]) (by rw [upM_ne _ _ _ (by omega)]; exact v8)
    rw [setS, bi_t ok] at this; exact ⟨jb_1, this⟩
  have e6 : M0 6 0 = nI (A.1 0) := h8.2.2.1 6 0 (Or.inl rfl)
  refine bn_c (fun w1 => ?_) (fun w1 => ?_)
  · have need : okE A w a v → okN A a := fun z => by
      rcases z with z | z | z | z
      · exact z.2.1
      · exact absurd z.1 w1
      · exact z.2.1
      · exact z.2.1
    have neg : okE A w a v → ¬ v < 0 := fun z y => by
      have y2 : v < 1 := by
        rw [Int32.lt_iff_toInt_lt] at y ⊢
        rw [show (0 : Int32).toInt = 0 from rfl] at y
        rw [show (1 : Int32).toInt = 1 from rfl]
        omega
      rcases z with z | z | z | z
      · exact z.2.2.1 y2
      · exact z.2.2.1 y2
      · exact z.2.2.1 y
      · exact z.2.2.1 y
    rw [e6]
    refine br_c (fun z => bad (fun y => (need y).1 z)) (fun a1 => br_c (fun z => bad (fun y => (need y).2 z)) (fun a2 => br_c (fun v0 => ?_) (fun z => bad (fun y => neg y (Int32.not_le.mp z)))))
    have ha : okN A a := ⟨a1, a2⟩
    have hv : ¬ v < 0 := Int32.not_lt.mpr v0
    obtain ⟨f, hf, rfl⟩ := (ok3 (by omega)).mp ha
    have hfc : (nI f).toNatClampNeg = f := nI_clamp (by omega)
    intro R42 h42
    have last : w ≠ 0 → R42 := fun w0 => h42 (by
      intro R72 h72
      have last2 : ¬ (w = 2 ∧ ¬ 1 < v) → R72 := fun n2 => h72 (bn_c (fun w3 => bad (fun z => by
        rcases z with z | z | z | z
        · exact w0 z.1
        · exact w1 z.1
        · exact n2 ⟨z.1, z.2.2.2⟩
        · exact w3 z.1)) (fun w3 => br_c (fun v10 => bad (fun z => by
          rcases z with z | z | z | z
          · exact w0 z.1
          · exact w1 z.1
          · exact n2 ⟨z.1, z.2.2.2⟩
          · exact z.2.2.2 v10)) (fun v10 => ⟨vin (by rw [h.2.1.1]; exact hf) (by rw [h.2.1.1]; omega), by
            subst w3
            rw [hfc]
            refine good 28 f v (by omega) (Or.inr (Or.inr (Or.inr ⟨rfl, ha, hv, v10⟩))) (fun k' j' hk => ?_) (fun b hb => tab_ne (show b ≠ 16 by omega))
            rw [hfc] at hk ⊢
            rcases pCs_key hk with rfl | rfl | rfl | rfl | rfl | rfl | rfl | rfl | rfl | rfl | rfl | rfl | rfl | rfl | rfl | rfl | rfl | rfl | rfl | rfl | rfl | rfl | rfl | rfl | rfl
            all_goals first | exact Or.inl ⟨hk, rfl, rfl⟩ | skip
            have e1 : cTs (tabA A 16 f v) 28 j' = if j' = f then v else A.2 16 j' := tab_at
            have e2 := h8.2.2.1 28 j' hk
            refine Or.inr ?_
            show _ = cTs (tabA A 16 f v) 28 j'
            rw [up_at, e1, e2]
            rfl⟩)))
      refine bn_c (fun w2 => last2 (fun z => w2 z.1)) (fun w2 => br_c (fun v1 => last2 (fun z => z.2 v1)) (fun v1 => ?_))
      rintro M9 rfl
      subst w2
      obtain ⟨x, -, x2, x3⟩ := in_pos (lo := 0) (hi := 1) (by omega) hv v1 (by omega)
      have e3 : M0 6 3 = nI (bitsN (fun f => A.2 15 f == 1) (A.1 0)) := h8.2.2.1 6 3 (Or.inr rfl)
      have hb := bitsN_lt (fun f => A.2 15 f == 1) (A.1 0)
      have hC := h.C512
      have e4 : (M0 6 3 &&& (((1 : Int32) <<< (nI f &&& 31)) ^^^ (-1))) ||| (v <<< (nI f &&& 31)) = nI (bitsN (fun g => (tabA A 15 f v).2 15 g == 1) (A.1 0)) := by
        rw [x3, e3, shl1 (by omega), nI_andn (by omega), nI_shl _ (by omega), nI_or, barred_up hf (by omega) x2]
      rw [e4]
      refine good 6 3 _ (by omega) (Or.inr (Or.inr (Or.inl ⟨rfl, ha, hv, v1⟩))) (fun k' j' hk => ?_) (fun b hb => tab_ne (show b ≠ 15 by omega))
      rw [hfc] at hk ⊢
      rcases pCs_key hk with rfl | rfl | rfl | rfl | rfl | rfl | rfl | rfl | rfl | rfl | rfl | rfl | rfl | rfl | rfl | rfl | rfl | rfl | rfl | rfl | rfl | rfl | rfl | rfl | rfl
      case inr.inr.inr.inr.inr.inl =>
        rcases hk with e | e
        · subst e; exact Or.inl ⟨Or.inl rfl, rfl, rfl⟩
        · subst e; exact Or.inr rfl
      all_goals exact Or.inl ⟨hk, rfl, rfl⟩)
    refine bn_c (fun w0 => last w0) (fun w0 => ?_)
    subst w0
    have n0 : (¬ v < 1 ∧ ¬ 99 < v → False) → R42 := fun z => h42 (by
      intro R72 h72
      have hn : ¬ okE A 0 (nI f) v := fun y => by
        rcases y with y | y | y | y
        · exact z y.2.2
        all_goals exact absurd y.1 (by decide)
      exact ⟨fun _ => h72 (bn_f (by decide) (bad hn)), fun y => absurd y (by decide)⟩)
    refine br_c (fun y => n0 (fun z => z.1 y)) (fun v1 => br_c (fun y => n0 (fun z => z.2 y)) (fun v99 => ⟨vin (by rw [h.2.1.1]; exact hf) (by rw [h.2.1.1]; omega), ?_⟩))
    rw [hfc]
    refine good 27 f v (by omega) (Or.inl ⟨rfl, ha, v1, v99⟩) (fun k' j' hk => ?_) (fun b hb => tab_ne (show b ≠ 12 by omega))
    rw [hfc] at hk ⊢
    rcases pCs_key hk with rfl | rfl | rfl | rfl | rfl | rfl | rfl | rfl | rfl | rfl | rfl | rfl | rfl | rfl | rfl | rfl | rfl | rfl | rfl | rfl | rfl | rfl | rfl | rfl | rfl
    all_goals first | exact Or.inl ⟨hk, rfl, rfl⟩ | skip
    have e1 : cTs (tabA A 12 f v) 27 j' = if j' = f then v else A.2 12 j' := tab_at
    have e2 := h8.2.2.1 27 j' hk
    refine Or.inr ?_
    show _ = cTs (tabA A 12 f v) 27 j'
    rw [up_at, e1, e2]
    rfl
  · subst w1
    have need : okE A 1 a v → okQ A a ∧ ¬ v < 1 ∧ ¬ 99 < v := fun z => by
      rcases z with z | z | z | z
      · exact absurd z.1 (by decide)
      · exact z.2
      all_goals exact absurd z.1 (by decide)
    rw [h8.qn]
    refine br_c (fun z => bad (fun y => (need y).1.1 z)) (fun a1 => br_c (fun z => bad (fun y => (need y).1.2 z)) (fun a2 => br_c (fun z => bad (fun y => (need y).2.1 z)) (fun v1 => br_c (fun v99 => ?_) (fun z => bad (fun y => z (Int32.not_lt.mp (need y).2.2))))))
    have ha : okQ A a := ⟨a1, a2⟩
    obtain ⟨f, hf, rfl⟩ := (ok3 (by omega)).mp ha
    have hfc : (nI f).toNatClampNeg = f := nI_clamp (by omega)
    rw [hfc]
    refine ⟨vin (by omega) (by omega), good 38 f v (by omega) (Or.inr (Or.inl ⟨rfl, ha, v1, Int32.not_lt.mpr v99⟩)) (fun k' j' hk => ?_) (fun b hb => tab_ne (show b ≠ 13 by omega))⟩
    rw [hfc] at hk ⊢
    rcases pCs_key hk with rfl | rfl | rfl | rfl | rfl | rfl | rfl | rfl | rfl | rfl | rfl | rfl | rfl | rfl | rfl | rfl | rfl | rfl | rfl | rfl | rfl | rfl | rfl | rfl | rfl
    all_goals first | exact Or.inl ⟨hk, rfl, rfl⟩ | skip
    have e1 : cTs (tabA A 13 f v) 38 j' = if j' = f then v else A.2 13 j' := tab_at
    have e2 := h8.2.2.1 38 j' hk
    refine Or.inr ?_
    show _ = cTs (tabA A 13 f v) 38 j'
    rw [up_at, e1, e2]
    rfl
