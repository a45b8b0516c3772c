/-! reading: a law, both sides -/
theorem bn3 {c A B : Prop} (h : c) (a : A) : (c → A) ∧ (¬ c → B) := ⟨fun _ => a, fun z => absurd h z⟩
def bd12 (P : jP) (R17 : Int32 → jM → Prop) (Q : jM → Prop) (r13 r25 x28 : Int32) (M29 : jM) : Prop :=
  ((M29 1 6) = (-1) → (vp_in (M29 1 10) (12) ∧ ∀ M32 : jM, M32 = upM M29 3 (M29 1 10).toNatClampNeg (r13 - 48) → ∀ R153 : Int32 → Int32 → Prop, (∀ (x33 : Int32) (x34 : Int32), (∀ M35 : jM, M35 = upM (upM M32 1 11 (x33 ||| x34)) 1 10 (((upM M32 1 11 (x33 ||| x34)) 1 10) + 1) → w_X12_look P M35 (fun r36 M37 => ∀ R181 : Int32 → Prop, (∀ (x39 : Int32), (∀ R201 : Prop, (((x39 = 0 → (R17 x39 M37)) ∧ (¬ x39 = 0 → (R17 x39 (upM M37 1 5 ((M37 1 5) + 1))))) → R201) → (x39 = 0 → (R201)) ∧ (¬ x39 = 0 → ((¬ (M37 1 10) = 12 → (R201)) ∧ ((M37 1 10) = 12 → (w_X12_fails P M37 (fun r43 M44 => Q M44)))))) → R181 x39) → (¬ r36 = 59 → (R181 0)) ∧ (r36 = 59 → (R181 1)))) → R153 x33 x34) → (r25 = 0 → (R153 (M32 1 11) 0)) ∧ (¬ r25 = 0 → ((¬ x28 = 0 → (R153 (M32 1 11) 0)) ∧ (x28 = 0 → (R153 (M32 1 11) ((1 : Int32) <<< ((M32 1 10) &&& 31)))))))) ∧ (¬ (M29 1 6) = (-1) → (Q M29))
def rl12 (P : jP) (x : Int32) (M : jM) (Q : jM → Prop) : Prop := ∀ R17 : Int32 → jM → Prop, (∀ (x3 : Int32) (M4 : jM), ((x3 = 0 → (w_X12_look P M4 (fun r6 M7 => (r6 = (-1) → (Q M7)) ∧ (¬ r6 = (-1) → (w_X12_fails P M7 (fun r10 M11 => Q M11)))))) ∧ (¬ x3 = 0 → cl12 P (bd12 P R17 Q) Q M4)) → R17 x3 M4) → R17 x M
theorem readLaw_eq {P : jP} {c : Int32} {M : jM} {Q : jM → Prop} (h : w_X12_begin P c M (fun M1 => rl12 P 1 (upM (upM M1 1 10 0) 1 11 0) Q)) : w_X12_readLaw P c M Q := h
def rl7 (P : jP) (a1 : Int32) (x y : Int32) (M : jM) (Q : Int32 → jM → Prop) : Prop := ∀ R88 : Int32 → Int32 → jM → Prop, (∀ (x4 : Int32) (x5 : Int32) (M6 : jM), (∀ R141 : Prop, ((∀ R183 : jM → Prop, (∀ (M7 : jM), (Q (M7 3 3) M7) → R183 M7) → (¬ (M6 3 3) = (-1) → (R183 M6)) ∧ ((M6 3 3) = (-1) → ((¬ a1 = 2 → (R183 M6)) ∧ (a1 = 2 → (((M6 4 10) < (M6 4 4) → (R183 M6)) ∧ (¬ (M6 4 10) < (M6 4 4) → (w_X10_miss P (M6 3 1) M6 (fun r11 M12 => R183 M12)))))))) → R141) → (12 ≤ x5 → (R141)) ∧ (¬ 12 ≤ x5 → ((x4 = 0 → (R141)) ∧ (¬ x4 = 0 → (∀ R134 : Int32 → jM → Prop, (∀ (x16 : Int32) (M17 : jM), (R88 x16 (x5 + 1) M17) → R134 x16 M17) → ∀ R121 : jM → Prop, (∀ (M18 : jM), (w_X7_goesOn P x5 M18 (fun r19 M20 => (r19 = 0 → (R134 0 M20)) ∧ (¬ r19 = 0 → (R134 1 M20)))) → R121 M18) → (¬ a1 = 0 → (w_X7_node P x5 M6 (fun r24 M25 => (r24 = 0 → (R134 0 M25)) ∧ (¬ r24 = 0 → (R121 M25))))) ∧ (a1 = 0 → (w_X7_clause P x5 M6 (fun r28 M29 => (r28 = 0 → (R134 0 M29)) ∧ (¬ r28 = 0 → (R121 M29)))))))))) → R88 x4 x5 M6) → R88 x y M
theorem readAs_eq {P : jP} {a1 : Int32} {M : jM} {Q : Int32 → jM → Prop} (h1 : ¬ a1 = 1) (h : w_X10_rewind P M (fun M1 => rl7 P a1 1 0 (upM (upM (upM M1 4 3 0) 4 4 0) 4 10 0) Q)) : w_X7_readAs P a1 M Q := by
  unfold w_X7_readAs
  unfold w_X10_rewind at h ⊢
  exact bn_f h1 h
def g12 (k : Nat) (M M' : jM) : Prop := (∀ q, q ≠ 1 → q ≠ 3 → M' q = M q) ∧ (∀ j, ¬ (5 ≤ j ∧ j ≤ 8) → j ≠ 10 → j ≠ 11 → M' 1 j = M 1 j) ∧ ∀ j, j < k → M' 3 j = M 3 j
theorem g12.refl (k : Nat) (M : jM) : g12 k M M := ⟨fun _ _ _ => rfl, fun _ _ _ _ => rfl, fun _ _ => rfl⟩
theorem g12.trans {k k' : Nat} {M M' M2 : jM} (h : g12 k M M') (h' : g12 k' M' M2) (hk : k ≤ k') : g12 k M M2 := ⟨fun q a b => (h'.1 q a b).trans (h.1 q a b), fun j a b c => (h'.2.1 j a b c).trans (h.2.1 j a b c), fun j a => (h'.2.2 j (by omega)).trans (h.2.2 j a)⟩
theorem g12.of {M M' : jM} (h : f12 M M') (k : Nat) : g12 k M M' := ⟨fun q a _ => h.1 q a, fun j a _ _ => h.2 j (by omega) (by omega) (by omega), fun j _ => by rw [h.1 3 (by omega)]⟩
theorem g12.up {k j : Nat} {M : jM} (hj : (5 ≤ j ∧ j ≤ 8) ∨ j = 10 ∨ j = 11) (v : Int32) : g12 k M (upM M 1 j v) := ⟨fun q a _ => upM_ne _ _ _ a, fun i a b c => by rw [up_at, if_neg (by omega)], fun i _ => up_of _ _ _ _ (by omega)⟩
theorem g12.up3 {k j : Nat} {M : jM} (hj : k ≤ j) (v : Int32) : g12 k M (upM M 3 j v) := ⟨fun q _ b => upM_ne _ _ _ b, fun i _ _ _ => up_of _ _ _ _ (by omega), fun i a => by rw [up_at, if_neg (by omega)]⟩
theorem RelM.g12 {M M' : jM} {A : aS} {n : Nat} (h : RelM M A) (g : g12 n M M') : RelM M' A := by
  refine ⟨h.1, fun k j hp => ?_⟩
  by_cases hk : k = 1
  · subst hk
    have : ¬ (5 ≤ j ∧ j ≤ 8) ∧ j ≠ 10 ∧ j ≠ 11 := by
      unfold pA at hp
      omega
    rw [g.2.1 j this.1 this.2.1 this.2.2]
    exact h.2 1 j hp
  · by_cases h3 : k = 3
    · subst h3
      unfold pA at hp
      omega
    · rw [g.1 k hk h3]
      exact h.2 k j hp
theorem RelW.g12 {M M' : jM} {A : aS} {n : Nat} (h : RelW M A) (g : g12 n M M') : RelW M' A := by
  refine ⟨h.1, fun k j hp hn => ?_⟩
  by_cases hk : k = 1
  · subst hk
    have : ¬ (5 ≤ j ∧ j ≤ 8) ∧ j ≠ 10 ∧ j ≠ 11 := by
      unfold pA at hp
      omega
    rw [g.2.1 j this.1 this.2.1 this.2.2]
    exact h.2 1 j hp hn
  · by_cases h3 : k = 3
    · subst h3
      unfold pA at hp
      omega
    · rw [g.1 k hk h3]
      exact h.2 k j hp hn
theorem hR_n1 {A : aS} (hT : wfT A) {i : Nat} : hR A i = -1 ↔ chN A i = 0 := by
  unfold hR
  by_cases hi : i < A.1 1
  · rw [if_pos hi]
    have := ch_in hT hi
    exact ⟨fun z => absurd z (nI_ne1 (by omega)), fun z => by omega⟩
  · rw [if_neg hi, ch_out hi]
    exact ⟨fun _ => rfl, fun _ => rfl⟩
theorem tb_or {h k : Nat} (hh : h < 2 ^ k) (b : Bool) (j : Nat) : (h ||| (if b = true then 2 ^ k else 0)).testBit j = if j < k then h.testBit j else decide (j < k + 1) && b := by
  rw [Nat.testBit_or]
  have hx : (if b = true then 2 ^ k else 0).testBit j = (decide (j = k) && b) := by
    cases b with
    | true => rw [if_pos rfl, Nat.testBit_two_pow, Bool.and_true]; exact decide_eq_decide.mpr ⟨fun z => z.symm, fun z => z.symm⟩
    | false => rw [if_neg (by decide), Nat.zero_testBit, Bool.and_false]
  rw [hx]
  by_cases z : j < k
  · rw [if_pos z, decide_eq_false (show ¬ j = k by omega), Bool.false_and, Bool.or_false]
  · rw [if_neg z, Nat.testBit_lt_two_pow (Nat.lt_of_lt_of_le hh (Nat.pow_le_pow_right (by omega) (by omega))), Bool.false_or]
    congr 1
    exact decide_eq_decide.mpr (by omega)
theorem or_lt {h k : Nat} (hh : h < 2 ^ k) (b : Bool) : h ||| (if b = true then 2 ^ k else 0) < 2 ^ (k + 1) := by
  apply Nat.or_lt_two_pow
  · exact Nat.lt_of_lt_of_le hh (Nat.pow_le_pow_right (by omega) (by omega))
  · cases b with
    | true => rw [if_pos rfl]; exact Nat.pow_lt_pow_right (by omega) (by omega)
    | false => rw [if_neg (by decide)]; exact Nat.two_pow_pos _
def lwT (A : aS) (k i a : Nat) : Prop :=
  (∃ p, p ≤ A.1 1 ∧ (∀ (P : jP) (c : Nat) (M : jM) (Q : jM → Prop) (h : Nat), c < 512 → S12 M A c i 0 → M 1 10 = nI k → M 1 11 = nI h → h < 2 ^ k → (∀ M', g12 k M M' → M' 1 6 = nI p → Q M') → rl12 P 1 M Q) ∧ ∀ (P : jP) (M : jM) (Q : Int32 → jM → Prop), S7 P M A i a → (∀ M', gL a k M M' → Q (nI p) M') → rl7 P 0 1 (nI k) M Q) ∨
  ∃ (n : Nat) (o st un en : Nat → Nat) (cv uv : Nat → Nat → Bool), k < n ∧ n ≤ 12 ∧ (∀ j, k ≤ j → j < n → o j ≤ 5 ∧ en j ≤ 160) ∧ (∀ (P : jP) (c : Nat) (M : jM) (Q : jM → Prop) (h : Nat), c < 512 → S12 M A c i 0 → M 1 10 = nI k → M 1 11 = nI h → h < 2 ^ k → (∀ M' h', g12 k M M' → M' 1 6 = -1 → M' 1 10 = nI n → M' 1 11 = nI h' → h' < 2 ^ n → (∀ j, h'.testBit j = if j < k then h.testBit j else decide (j < n) && (cv j c && !uv j c)) → (∀ j, k ≤ j → j < n → M' 3 j = nI (o j)) → Q M') → rl12 P 1 M Q) ∧ ∀ (P : jP) (M : jM) (Q : Int32 → jM → Prop), S7 P M A i a → M 3 3 = -1 → (∀ M', gL a k M M' → M' 3 3 = -1 → M' 4 4 = nI n → (∀ j, k ≤ j → j < n → M' 19 j = nI (o j) ∧ M' 20 j = nI (st j) ∧ M' 21 j = nI (un j) ∧ M' 22 j = nI (en j) ∧ segOK (M' 18) (st j) (un j) (cv j) ∧ ((un j = en j ∧ ∀ c, uv j c = false) ∨ segOK (M' 18) (un j) (en j) (uv j))) → Q (-1) M') → rl7 P 0 1 (nI k) M Q
theorem lw_all {A : aS} (hT : wfT A) (h160 : A.1 1 ≤ 160) (h9 : A.1 0 ≤ 9) : ∀ r i k a, i + r = A.1 1 → k < 12 → a ≤ i → lwT A k i a := by
  intro r
  induction r using Nat.strongRecOn with
  | ind r ih =>
    intro i k a hr hk hai
    have hi : i ≤ A.1 1 := by omega
    have n12 : ¬ (12 : Int32) ≤ nI k := nI_ge (b := 12) hk (by omega)
    -- the loops, from a clause on
    have l12 : ∀ (P : jP) (M : jM) (Q : jM → Prop), (∀ R17 : Int32 → jM → Prop, (∀ x M', ((x = 0 → (w_X12_look P M' (fun r6 M7 => (r6 = (-1) → (Q M7)) ∧ (¬ r6 = (-1) → (w_X12_fails P M7 (fun r10 M11 => Q M11)))))) ∧ (¬ x = 0 → cl12 P (bd12 P R17 Q) Q M')) → R17 x M') → cl12 P (bd12 P R17 Q) Q M) → rl12 P 1 M Q := by
      intro P M Q h R17 h17
      exact h17 _ _ (bn2 (by decide) (h R17 h17))
    have fin7 : ∀ (P : jP) (M6 : jM) (Q : Int32 → jM → Prop), (Q (M6 3 3) M6) → (∀ R183 : jM → Prop, (∀ (M7 : jM), (Q (M7 3 3) M7) → R183 M7) → (¬ (M6 3 3) = (-1) → (R183 M6)) ∧ ((M6 3 3) = (-1) → ((¬ (0 : Int32) = 2 → (R183 M6)) ∧ ((0 : Int32) = 2 → (((M6 4 10) < (M6 4 4) → (R183 M6)) ∧ (¬ (M6 4 10) < (M6 4 4) → (w_X10_miss P (M6 3 1) M6 (fun r11 M12 => R183 M12)))))))) := by
      intro P M6 Q hq R183 h183
      exact bn_c (fun _ => h183 _ hq) (fun _ => bn_f (by decide) (h183 _ hq))
    have l7 : ∀ (P : jP) (M : jM) (Q : Int32 → jM → Prop), (∀ (R134 : Int32 → jM → Prop) (R121 : jM → Prop), (∀ x M', rl7 P 0 x (nI (k + 1)) M' Q → R134 x M') → (∀ M', w_X7_goesOn P (nI k) M' (fun r19 M20 => (r19 = 0 → (R134 0 M20)) ∧ (¬ r19 = 0 → (R134 1 M20))) → R121 M') → w_X7_clause P (nI k) M (fun r28 M29 => (r28 = 0 → (R134 0 M29)) ∧ (¬ r28 = 0 → (R121 M29)))) → rl7 P 0 1 (nI k) M Q := by
      intro P M Q h R88 h88
      refine h88 _ _ _ ?_
      intro R141 h141
      refine br_f n12 (bn2 (by decide) ?_)
      intro R134 h134 R121 h121
      refine bn_t rfl (h R134 R121 (fun x M' hx => h134 x M' ?_) h121)
      rw [nI_1]
      exact hx R88 h88
    have stop7 : ∀ (P : jP) (M : jM) (Q : Int32 → jM → Prop), Q (M 3 3) M → rl7 P 0 0 (nI (k + 1)) M Q := by
      intro P M Q hq R88 h88
      refine h88 _ _ _ ?_
      intro R141 h141
      have fin : R141 := h141 (fin7 P M Q hq)
      exact br_c (fun _ => fin) (fun _ => bn3 rfl fin)
    rcases cl_all hT h160 h9 hk hi hai with ⟨p, p1, p2, p3⟩ | ⟨i1, o1, u1, e1, cv1, uv1, d1, d2, d3, d4, d5, d6, d7, d8⟩
    · refine Or.inl ⟨p, p1, fun P c M Q h hc hs hk1 _ _ hq => l12 P M Q (fun R17 _ => p2 P c M _ Q hc hs (fun M' g e => hq M' (g12.of g k) e) (fun x y z M' e q => bn2 (fun y => absurd (e.symm.trans y) (nI_ne1 (by omega))) q)), fun P M Q hs hq => l7 P M Q (fun R134 R121 h134 h121 => p3 P M _ hs (fun M' g e => bn3 rfl (h134 0 M' (stop7 P M' Q (by rw [e]; exact hq M' g)))))⟩
    · obtain ⟨m1, m2, m3⟩ := skN_le d2
      have hc1 := ch_lt hT (skN A i1)
      -- the reference behind a clause
      have ref : ∀ (P : jP) (c : Nat) (M : jM) (Q : jM → Prop) (h : Nat), c < 512 → S12 M A c i 0 → M 1 10 = nI k → M 1 11 = nI h → h < 2 ^ k → (∀ M', g12 k M M' → S12 M' A c (skN A i1) 0 → M' 1 10 = nI (k + 1) → M' 1 11 = nI (h ||| (if (cv1 c && !uv1 c) = true then 2 ^ k else 0)) → M' 3 k = nI o1 → ∀ R17 : Int32 → jM → Prop, (∀ x M', ((x = 0 → (w_X12_look P M' (fun r6 M7 => (r6 = (-1) → (Q M7)) ∧ (¬ r6 = (-1) → (w_X12_fails P M7 (fun r10 M11 => Q M11)))))) ∧ (¬ x = 0 → cl12 P (bd12 P R17 Q) Q M')) → R17 x M') → (chN A (skN A i1) = 59 → (k + 1 = 12 → w_X12_fails P M' (fun r43 M44 => Q M44)) ∧ (¬ k + 1 = 12 → R17 1 (upM M' 1 5 ((M' 1 5) + 1)))) ∧ (¬ chN A (skN A i1) = 59 → R17 0 M')) → rl12 P 1 M Q := by
        intro P c M Q h hc hs hk1 hk2 hh hK
        refine l12 P M Q (fun R17 h17 => d7 P c M _ Q hc hs (fun M29 g s => ?_))
        have e10 : M29 1 10 = nI k := (g.2 10 (by omega) (by omega) (by omega)).trans hk1
        have e11 : M29 1 11 = nI h := (g.2 11 (by omega) (by omega) (by omega)).trans hk2
        unfold bd12
        rw [e10, nI_clamp (show k < 2 ^ 31 by omega), show nI (o1 + 48) - 48 = nI o1 by rw [show (48 : Int32) = nI 48 from rfl, pk_sub (by omega)]; congr 1]
        refine br_t s.2.2.1 ⟨vin hk (by omega), ?_⟩
        rintro M32 rfl
        have goal : ∀ x34 : Int32, x34 = nI (if (cv1 c && !uv1 c) = true then 2 ^ k else 0) → ∀ M35 : jM, M35 = upM (upM (upM M29 3 k (nI o1)) 1 11 ((upM M29 3 k (nI o1)) 1 11 ||| x34)) 1 10 (((upM (upM M29 3 k (nI o1)) 1 11 ((upM M29 3 k (nI o1)) 1 11 ||| x34)) 1 10) + 1) → w_X12_look P M35 (fun r36 M37 => ∀ R181 : Int32 → Prop, (∀ (x39 : Int32), (∀ R201 : Prop, (((x39 = 0 → (R17 x39 M37)) ∧ (¬ x39 = 0 → (R17 x39 (upM M37 1 5 ((M37 1 5) + 1))))) → R201) → (x39 = 0 → (R201)) ∧ (¬ x39 = 0 → ((¬ (M37 1 10) = 12 → (R201)) ∧ ((M37 1 10) = 12 → (w_X12_fails P M37 (fun r43 M44 => Q M44)))))) → R181 x39) → (¬ r36 = 59 → (R181 0)) ∧ (r36 = 59 → (R181 1))) := by
          rintro x34 rfl M35 rfl
          have ea : (upM M29 3 k (nI o1)) 1 11 = nI h := by rw [up_of _ _ _ _ (by omega)]; exact e11
          have eb : ∀ v, (upM (upM M29 3 k (nI o1)) 1 11 v) 1 10 = nI k := fun v => by rw [up_at, if_neg (by omega), up_of _ _ _ _ (by omega)]; exact e10
          rw [ea, eb, nI_or, nI_1]
          have g2 : g12 k M29 (upM (upM (upM M29 3 k (nI o1)) 1 11 (nI (h ||| (if (cv1 c && !uv1 c) = true then 2 ^ k else 0)))) 1 10 (nI (k + 1))) := ((g12.up3 (Nat.le_refl k) _).trans (g12.up (by omega) _) (Nat.le_refl k)).trans (g12.up (by omega) _) (Nat.le_refl k)
          have s2 : S12 (upM (upM (upM M29 3 k (nI o1)) 1 11 (nI (h ||| (if (cv1 c && !uv1 c) = true then 2 ^ k else 0)))) 1 10 (nI (k + 1))) A c i1 0 := by
            have e : ∀ j, j ≠ 10 → j ≠ 11 → (upM (upM (upM M29 3 k (nI o1)) 1 11 (nI (h ||| (if (cv1 c && !uv1 c) = true then 2 ^ k else 0)))) 1 10 (nI (k + 1))) 1 j = M29 1 j := fun j a b => by rw [up_at, if_neg a, up_at, if_neg b, up_of _ _ _ _ (by omega)]
            exact ⟨s.1.g12 g2, (e 5 (by omega) (by omega)).trans s.2.1, (e 6 (by omega) (by omega)).trans s.2.2.1, (e 7 (by omega) (by omega)).trans s.2.2.2.1, (e 8 (by omega) (by omega)).trans s.2.2.2.2⟩
          refine s2.look hT d2 (fun M37 g3 s3 => ?_)
          intro R181 h181
          have f10 : M37 1 10 = nI (k + 1) := by rw [g3.2 10 (by omega) (by omega) (by omega), up_at, if_pos rfl]
          have f11' : M37 1 11 = nI (h ||| (if (cv1 c && !uv1 c) = true then 2 ^ k else 0)) := by rw [g3.2 11 (by omega) (by omega) (by omega), up_at, if_neg (by omega), up_at, if_pos rfl]
          have f3 : M37 3 k = nI o1 := by rw [g3.1 3 (by omega), up_of _ _ _ _ (by omega), up_of _ _ _ _ (by omega), up_at, if_pos rfl]
          obtain ⟨w1, w2⟩ := hK M37 (((g12.of g k).trans g2 (Nat.le_refl k)).trans (g12.of g3 k) (Nat.le_refl k)) s3 f10 f11' f3 R17 h17
          have i59 : hR A (skN A i1) = 59 ↔ chN A (skN A i1) = 59 := hR_eq (v := 59) hT (by omega) (by omega)
          have i12 : M37 1 10 = 12 ↔ k + 1 = 12 := by rw [f10]; exact nI_eq (b := 12) (by omega) (by omega)
          refine bn_c (fun z => h181 0 ?_) (fun z => h181 1 ?_)
          · intro R201 h201
            exact bn3 rfl (h201 (bn3 rfl (w2 (fun y => z (i59.mpr y)))))
          · intro R201 h201
            obtain ⟨v1, v2⟩ := w1 (i59.mp z)
            exact bn2 (by decide) (bn_c (fun y => h201 (bn2 (by decide) (v2 (fun t => y (i12.mpr t))))) (fun y => v1 (i12.mp y)))
        intro R153 h153
        cases hcv : cv1 c with
        | false =>
          have := goal 0 (by rw [hcv]; rfl)
          exact bn3 rfl (h153 _ _ this)
        | true =>
          cases huv : uv1 c with
          | true =>
            have := goal 0 (by rw [hcv, huv]; rfl)
            exact bn2 (by decide) (bn_f (by decide) (h153 _ _ this))
          | false =>
            refine bn2 (by decide) (bn_t rfl (h153 _ _ (goal _ ?_)))
            rw [up_of _ _ _ _ (by omega), e10, shl_1 (by omega), hcv, huv]
            rfl
      -- the class behind a clause
      have cls : ∀ (P : jP) (M : jM) (Q : Int32 → jM → Prop), S7 P M A i a → (∀ M' (R134 : Int32 → jM → Prop), (∀ x M', rl7 P 0 x (nI (k + 1)) M' Q → R134 x M') → gL a k M M' → M' 3 3 = M 3 3 → S7 P M' A (skN A i1) e1 → M' 4 4 = nI (k + 1) → M' 19 k = nI o1 → M' 20 k = nI a → M' 21 k = nI u1 → M' 22 k = nI e1 → segOK (M' 18) a u1 cv1 → ((u1 = e1 ∧ ∀ c, uv1 c = false) ∨ segOK (M' 18) u1 e1 uv1) → (chN A (skN A i1) = 0 → R134 0 M') ∧ (¬ chN A (skN A i1) = 0 → (k + 1 = 12 → w_X10_miss P (M' 3 2) M' (fun r10 M11 => jb r10 ∧ ((r10 = 0 → (R134 0 M11)) ∧ (¬ r10 = 0 → (R134 1 M11))))) ∧ (¬ k + 1 = 12 → w_X10_needs P 59 M' (fun r10 M11 => jb r10 ∧ ((r10 = 0 → (R134 0 M11)) ∧ (¬ r10 = 0 → (R134 1 M11))))))) → rl7 P 0 1 (nI k) M Q := by
        intro P M Q hs hK
        refine l7 P M Q (fun R134 R121 h134 h121 => d8 P M _ hs (fun M' g e s a1 a2 a3 a4 a5 a6 => bn2 (by decide) (h121 M' ?_)))
        unfold w_X7_goesOn
        have g2 : gL e1 (k + 1) M' (upM M' 4 4 (nI k + 1)) := gL.put4 _
        have s2 : S7 P (upM M' 4 4 (nI k + 1)) A i1 e1 := ⟨s.1.gL g2, by rw [up_of _ _ _ _ (by omega)]; exact s.2.1, by rw [up_at, if_neg (by omega)]; exact s.2.2⟩
        refine s2.next hT d2 (fun M2 g3 e3 s3 => ?_)
        have q4 : M2 4 4 = nI (k + 1) := by rw [g3.2.2.1 4 (by omega), up_at, if_pos rfl, nI_1]
        have qk : ∀ q, 19 ≤ q → q ≤ 22 → M2 q k = M' q k := fun q x y => by rw [g3.1 q (by omega) (by omega) (by omega), up_of _ _ _ _ (by omega)]
        have q18 : ∀ j, j < e1 → M2 18 j = M' 18 j := fun j hj => by rw [g3.2.2.2 j hj, up_of _ _ _ _ (by omega)]
        have hu : (u1 = e1 ∧ ∀ c, uv1 c = false) ∨ segOK (M2 18) u1 e1 uv1 := by
          rcases a6 with a6 | a6
          · exact Or.inl a6
          · exact Or.inr (a6.agree q18)
        obtain ⟨w1, w2⟩ := hK M2 R134 h134 ((g.trans g2 (by omega) (by omega)).trans (gL.of g3 (k + 1)) (by omega) (by omega)) (by rw [e3, up_of _ _ _ _ (by omega)]; exact e) s3 q4 ((qk 19 (by omega) (by omega)).trans a1) ((qk 20 (by omega) (by omega)).trans a2) ((qk 21 (by omega) (by omega)).trans a3) ((qk 22 (by omega) (by omega)).trans a4) (a5.agree (fun j hj => q18 j (by omega))) hu
        have i12 : M2 4 4 = 12 ↔ k + 1 = 12 := by rw [q4]; exact nI_eq (b := 12) (by omega) (by omega)
        have i0 : nI (chN A (skN A i1)) = 0 ↔ chN A (skN A i1) = 0 := nI_eq (b := 0) (by omega) (by omega)
        refine bn_c (fun z => ?_) (fun z => bn3 rfl (w1 (i0.mp z)))
        obtain ⟨v1, v2⟩ := w2 (fun y => z (i0.mpr y))
        exact bn_c (fun y => v2 (fun t => y (i12.mpr t))) (fun y => v1 (i12.mp y))
      have he1 : e1 ≤ i1 := by omega
      by_cases h59 : chN A (skN A i1) = 59
      · have hlen := ch_len h59 (by omega)
        by_cases h12 : k + 1 = 12
        · refine Or.inl ⟨skN A i1, m2, fun P c M Q h hc hs hk1 hk2 hh hq => ref P c M Q h hc hs hk1 hk2 hh (fun M' g s a1 a2 a3 R17 h17 => ⟨fun _ => ⟨fun _ => s.fails (fun M2 g2 e => hq M2 (g.trans (g12.of g2 k) (Nat.le_refl k)) e), fun z => absurd h12 z⟩, fun z => absurd h59 z⟩), fun P M Q hs hq => cls P M Q hs (fun M' R134 h134 g e s b1 b2 b3 b4 b5 b6 b7 => ⟨fun z => by omega, fun _ => ⟨fun _ => s.miss (fun M2 g2 e2 => ⟨jb_0, bn3 rfl (h134 0 M2 (stop7 P M2 Q ?_))⟩), fun z => absurd h12 z⟩⟩)⟩
          rw [e2]
          exact hq M2 (g.trans (gL.of g2 k) (by omega) (Nat.le_refl k))
        · -- a further clause
          rcases ih (A.1 1 - (skN A i1 + 1)) (by omega) (skN A i1 + 1) (k + 1) e1 (by omega) (by omega) (by omega) with ⟨p, p1, p2, p3⟩ | ⟨n, o, st, un, en, cv, uv, t1, t2, t3, t4, t5⟩
          · refine Or.inl ⟨p, p1, fun P c M Q h hc hs hk1 hk2 hh hq => ref P c M Q h hc hs hk1 hk2 hh (fun M' g s a1 a2 a3 R17 h17 => ⟨fun _ => ⟨fun z => absurd z h12, fun _ => ?_⟩, fun z => absurd h59 z⟩), fun P M Q hs hq => cls P M Q hs (fun M' R134 h134 g e s b1 b2 b3 b4 b5 b6 b7 => ⟨fun z => by omega, fun _ => ⟨fun z => absurd z h12, fun _ => s.needs (v := 59) hT m2 (by omega) (fun _ M2 g2 e2 s2 => ⟨jb_1, bn2 (by decide) (h134 1 M2 ?_)⟩) (fun z => absurd (by rw [skN_sk d2]; exact h59) z)⟩⟩)⟩
            · obtain ⟨g2, s2⟩ := s.inc
              exact p2 P c _ Q _ hc s2 (by rw [up_at, if_neg (by omega)]; exact a1) (by rw [up_at, if_neg (by omega)]; exact a2) (or_lt hh _) (fun M2 g3 e => hq M2 ((g.trans (g12.of g2 k) (Nat.le_refl k)).trans g3 (by omega)) e) R17 h17
            · rw [skN_sk d2] at s2
              exact p3 P M2 Q s2 (fun M3 g3 => hq M3 ((g.trans (gL.of g2 k) (by omega) (Nat.le_refl k)).trans g3 (by omega) (by omega)))
          · refine Or.inr ⟨n, fun j => if j = k then o1 else o j, fun j => if j = k then a else st j, fun j => if j = k then u1 else un j, fun j => if j = k then e1 else en j, fun j => if j = k then cv1 else cv j, fun j => if j = k then uv1 else uv j, by omega, t2, fun j h1 h2 => ?_, fun P c M Q h hc hs hk1 hk2 hh hq => ref P c M Q h hc hs hk1 hk2 hh (fun M' g s a1 a2 a3 R17 h17 => ⟨fun _ => ⟨fun z => absurd z h12, fun _ => ?_⟩, fun z => absurd h59 z⟩), fun P M Q hs hm1 hq => cls P M Q hs (fun M' R134 h134 g e s b1 b2 b3 b4 b5 b6 b7 => ⟨fun z => by omega, fun _ => ⟨fun z => absurd z h12, fun _ => s.needs (v := 59) hT m2 (by omega) (fun _ M2 g2 e2 s2 => ⟨jb_1, bn2 (by decide) (h134 1 M2 ?_)⟩) (fun z => absurd (by rw [skN_sk d2]; exact h59) z)⟩⟩)⟩
            · by_cases z : j = k
              · simp only [if_pos z]; omega
              · simp only [if_neg z]; exact t3 j (by omega) h2
            · obtain ⟨g2, s2⟩ := s.inc
              refine t4 P c _ Q _ hc s2 (by rw [up_at, if_neg (by omega)]; exact a1) (by rw [up_at, if_neg (by omega)]; exact a2) (or_lt hh _) (fun M2 h' g3 x1 x2 x3 x4 x5 x6 => hq M2 h' ((g.trans (g12.of g2 k) (Nat.le_refl k)).trans g3 (by omega)) x1 x2 x3 x4 (fun j => ?_) (fun j y1 y2 => ?_)) R17 h17
              · show h'.testBit j = if j < k then h.testBit j else decide (j < n) && ((if j = k then cv1 else cv j) c && !(if j = k then uv1 else uv j) c)
                rw [x5 j, tb_or hh]
                by_cases z : j < k
                · rw [if_pos (by omega), if_pos z, if_pos z]
                · rw [if_neg z, if_neg z]
                  by_cases z2 : j = k
                  · rw [if_pos (by omega), if_pos z2, if_pos z2, decide_eq_true (show j < k + 1 by omega), decide_eq_true (show j < n by omega)]
                  · rw [if_neg (by omega), if_neg z2, if_neg z2]
              · show M2 3 j = nI (if j = k then o1 else o j)
                by_cases z2 : j = k
                · rw [if_pos z2, z2, g3.2.2 k (by omega), up_of _ _ _ _ (by omega)]
                  exact a3
                · rw [if_neg z2]; exact x6 j (by omega) y2
            · rw [skN_sk d2] at s2
              refine t5 P M2 Q s2 (by rw [e2, e]; exact hm1) (fun M3 g3 x1 x2 x3 => hq M3 ((g.trans (gL.of g2 k) (by omega) (Nat.le_refl k)).trans g3 (by omega) (by omega)) x1 x2 (fun j y1 y2 => ?_))
              by_cases z2 : j = k
              · simp only [if_pos z2]
                have qk : ∀ q, 19 ≤ q → q ≤ 22 → M3 q j = M' q k := fun q x y => by rw [z2, g3.2.2.2.2 q x y k (by omega), g2.1 q (by omega) (by omega) (by omega)]
                have q18 : ∀ j, j < e1 → M3 18 j = M' 18 j := fun j hj => by rw [g3.2.2.2.1 j hj, g2.2.2.2 j (by omega)]
                refine ⟨(qk 19 (by omega) (by omega)).trans b2, (qk 20 (by omega) (by omega)).trans b3, (qk 21 (by omega) (by omega)).trans b4, (qk 22 (by omega) (by omega)).trans b5, b6.agree (fun j hj => q18 j (by omega)), ?_⟩
                rcases b7 with b7 | b7
                · exact Or.inl b7
                · exact Or.inr (b7.agree q18)
              · simp only [if_neg z2]
                exact x3 j (by omega) y2
      · by_cases h0 : chN A (skN A i1) = 0
        · -- the end
          refine Or.inr ⟨k + 1, fun _ => o1, fun _ => a, fun _ => u1, fun _ => e1, fun _ => cv1, fun _ => uv1, by omega, by omega, fun j _ _ => ⟨d3, show e1 ≤ 160 by omega⟩, fun P c M Q h hc hs hk1 hk2 hh hq => ref P c M Q h hc hs hk1 hk2 hh (fun M' g s a1 a2 a3 R17 h17 => ⟨fun z => absurd z h59, fun _ => h17 0 M' (bn3 rfl (s.look hT m2 (fun M2 g2 s2 => ?_)))⟩), fun P M Q hs hm1 hq => cls P M Q hs (fun M' R134 h134 g e s b1 b2 b3 b4 b5 b6 b7 => ⟨fun _ => h134 0 M' (stop7 P M' Q ?_), fun z => absurd h0 z⟩)⟩
          · rw [skN_sk d2]
            refine bn3 ((hR_n1 hT).mpr h0) (hq M2 (h ||| (if (cv1 c && !uv1 c) = true then 2 ^ k else 0)) (g.trans (g12.of g2 k) (Nat.le_refl k)) s2.2.2.1 ?_ ?_ (or_lt hh _) (fun j => tb_or hh _ j) (fun j y1 y2 => ?_))
            · rw [g2.2 10 (by omega) (by omega) (by omega)]; exact a1
            · rw [g2.2 11 (by omega) (by omega) (by omega)]; exact a2
            · rw [show j = k by omega, g2.1 3 (by omega)]; exact a3
          · rw [e, hm1]
            refine hq M' g (e.trans hm1) b1 (fun j y1 y2 => ?_)
            rw [show j = k by omega]
            exact ⟨b2, b3, b4, b5, b6, b7⟩
        · refine Or.inl ⟨skN A i1, m2, fun P c M Q h hc hs hk1 hk2 hh hq => ref P c M Q h hc hs hk1 hk2 hh (fun M' g s a1 a2 a3 R17 h17 => ⟨fun z => absurd z h59, fun _ => h17 0 M' (bn3 rfl (s.look hT m2 (fun M2 g2 s2 => ?_)))⟩), fun P M Q hs hq => cls P M Q hs (fun M' R134 h134 g e s b1 b2 b3 b4 b5 b6 b7 => ⟨fun z => absurd z h0, fun _ => ⟨fun _ => s.miss (fun M2 g2 e2 => ⟨jb_0, bn3 rfl (h134 0 M2 (stop7 P M2 Q ?_))⟩), fun _ => s.needs (v := 59) hT m2 (by omega) (fun z => absurd (by rw [skN_sk d2] at z; exact z) h59) (fun _ M2 g2 e2 => ⟨jb_0, bn3 rfl (h134 0 M2 (stop7 P M2 Q ?_))⟩)⟩⟩)⟩
          · rw [skN_sk d2]
            exact bn2 (fun z => h0 ((hR_n1 hT).mp z)) ((show S12 M2 A c (skN A i1) 0 by rw [skN_sk d2] at s2; exact s2).fails (fun M3 g3 e => hq M3 ((g.trans (g12.of g2 k) (Nat.le_refl k)).trans (g12.of g3 k) (Nat.le_refl k)) e))
          · rw [e2]
            exact hq M2 (g.trans (gL.of g2 k) (by omega) (Nat.le_refl k))
          · rw [e2, skN_sk d2]
            exact hq M2 (g.trans (gL.of g2 k) (by omega) (Nat.le_refl k))
