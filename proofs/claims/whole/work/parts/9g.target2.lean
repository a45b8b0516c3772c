/-! reading: a target, both sides -/
theorem bn3' {c A B : Prop} (a : c → A) (b : ¬ c → B) : (c → A) ∧ (¬ c → B) := ⟨a, b⟩
theorem target_jo {A : aS} (hT : wfT A) (h160 : A.1 1 ≤ 160) {own i : Nat} (ho : own < 12) (hi : i ≤ A.1 1) : tgO (fun P M Q => w_X12_target P (nI own) M Q) (fun P M Q => w_X7_target P (nI own) M Q) A own i := by
  obtain ⟨k1, k2, k3⟩ := skN_le hi
  have hc := ch_lt hT (skN A i)
  have h61 : hR A (skN A i) = 61 ↔ chN A (skN A i) = 61 := hR_eq (v := 61) hT (by omega) (by omega)
  have c48 : nI (chN A (skN A i)) < 48 ↔ chN A (skN A i) < 48 := nI_ltI (b := 48) (by omega) (by omega)
  have c57 : 57 < nI (chN A (skN A i)) ↔ 57 < chN A (skN A i) := nI_ltI (a := 57) (by omega) (by omega)
  have e48 : ∀ n : Nat, nI (n + 48) - 48 = nI n := fun n => by
    rw [show (48 : Int32) = nI 48 from rfl, pk_sub (by omega)]
    congr 1
  by_cases hd : dgN A (skN A i)
  · -- a number
    have hlen := dg_len hd
    obtain ⟨n1, hn1, en1⟩ : ∃ n, n ≤ 9 ∧ chN A (skN A i) = n + 48 := ⟨chN A (skN A i) - 48, by omega, by omega⟩
    have hR1 : hR A (skN A i) = nI (n1 + 48) := by
      unfold hR
      rw [if_pos hlen, en1]
    -- the reference and the class, behind the first digit
    have ref : ∀ (P : jP) (M : jM) (Q : Int32 → jM → Prop), S12 M A 0 i 0 → (∀ M', u12 M M' → M' 1 16 = M 1 16 → S12 M' A 0 (skN A i + 1) 0 → ∀ R139 : Int32 → jM → Prop, (∀ (x15 : Int32) (M16 : jM), tn12 P (nI own) x15 M16 Q → R139 x15 M16) → (dgN A (skN A i + 1) → w_X12_here P M' (fun r31 => ∀ M34 : jM, M34 = upM M' 1 5 ((M' 1 5) + 1) → R139 (((10 * nI n1) + r31) - 48) M34)) ∧ (¬ dgN A (skN A i + 1) → R139 (nI n1) M')) → w_X12_target P (nI own) M Q := by
      intro P M Q hs hK
      unfold w_X12_target
      refine hs.look hT hi (fun M2 g s => bn_f (fun z => by have := h61.mp z; omega) (s.digit hT k2 (br_j (fun _ => s.here hT k2 ?_) (fun z => absurd hd z))))
      obtain ⟨g2, s2⟩ := s.inc
      refine s2.digit hT (by omega) ?_
      intro R139 h139
      obtain ⟨w1, w2⟩ := hK _ (u12.of (g.trans g2)) (by rw [up_at, if_neg (by omega), g.2 16 (by omega) (by omega) (by omega)]) s2 R139 h139
      rw [hR1, e48]
      exact br_i (fun z => w2 z) (fun z => w1 z)
    have cls : ∀ (P : jP) (M : jM) (k : Nat) (Q : Int32 → jM → Prop), S7 P M A i k → (∀ M', u7 M M' → M' 3 3 = M 3 3 → M' 4 10 = M 4 10 → S7 P M' A (skN A i + 1) k → ∀ R4 : Int32 → Int32 → jM → Prop, (∀ (x1 : Int32) (M3 : jM), tn7 P (nI own) x1 M3 Q → R4 x1 2 M3) → (dgN A (skN A i + 1) → R4 (((nI n1 * 10) + nI (chN A (skN A i + 1))) - 48) 2 (upM M' 3 2 ((M' 3 2) + 1))) ∧ (¬ dgN A (skN A i + 1) → tn7 P (nI own) (nI n1) M' Q)) → w_X7_target P (nI own) M Q := by
      intro P M k Q hs hK
      unfold w_X7_target
      refine hs.next' hT hi (fun M2 g e3 e10 s => ?_)
      intro R26 h26
      refine br_f (fun z => by have := c48.mp z; omega) (br_f (fun z => by have := c57.mp z; omega) ?_)
      unfold w_X7_numberAbove
      intro R4 h4
      refine h4 _ _ _ ?_
      intro R54 h54
      refine br_f (by decide) (s.digit hT k2 (br_i (fun z => absurd hd z) (fun _ => s.here hT k2 ?_)))
      obtain ⟨g2, f3, f10, s2⟩ := s.inc'
      have ev : (((0 : Int32) * 10) + nI (chN A (skN A i))) - 48 = nI n1 := by
        rw [show (0 : Int32) * 10 = nI 0 from by decide, nI_add, Nat.zero_add, en1, e48]
      rw [ev]
      refine h4 _ _ _ ?_
      intro R54' h54'
      obtain ⟨w1, w2⟩ := hK _ (g.trans g2) (f3.trans e3) (f10.trans e10) s2 R4 (fun x1 M3 ht => h4 _ _ _ (fun R5 h5 => bn3 (by decide) (h5 ht)))
      exact bn2 (by decide) (s2.digit hT (by omega) (br_i (fun z => h54' (w2 z)) (fun z => s2.here hT (by omega) (w1 z))))
    by_cases hd2 : dgN A (skN A i + 1)
    · have hlen2 := dg_len hd2
      obtain ⟨n2, hn2, en2⟩ : ∃ n, n ≤ 9 ∧ chN A (skN A i + 1) = n + 48 := ⟨chN A (skN A i + 1) - 48, by omega, by omega⟩
      have hR2 : hR A (skN A i + 1) = nI (n2 + 48) := by
        unfold hR
        rw [if_pos hlen2, en2]
      have ev1 : ((10 * nI n1) + nI (n2 + 48)) - 48 = nI (10 * n1 + n2) := by
        rw [show (10 : Int32) = nI 10 from rfl, pk_mul, nI_add, ← Nat.add_assoc, e48]
      have ev2 : ((nI n1 * 10) + nI (n2 + 48)) - 48 = nI (10 * n1 + n2) := by
        rw [show (10 : Int32) = nI 10 from rfl, pk_mul, nI_add, ← Nat.add_assoc, e48, Nat.mul_comm n1 10]
      have ref2 : ∀ (P : jP) (M : jM) (Q : Int32 → jM → Prop), S12 M A 0 i 0 → (∀ M', u12 M M' → M' 1 16 = M 1 16 → S12 M' A 0 (skN A i + 2) 0 → tn12 P (nI own) (nI (10 * n1 + n2)) M' Q) → w_X12_target P (nI own) M Q := by
        intro P M Q hs hK
        refine ref P M Q hs (fun M' g e s R139 h139 => ⟨fun _ => s.here hT (by omega) ?_, fun z => absurd hd2 z⟩)
        rintro M34 rfl
        rw [hR2, ev1]
        obtain ⟨g2, s2⟩ := s.inc
        exact h139 _ _ (hK _ (g.trans (u12.of g2)) (by rw [up_at, if_neg (by omega)]; exact e) s2)
      have cls2 : ∀ (P : jP) (M : jM) (k : Nat) (Q : Int32 → jM → Prop), S7 P M A i k → (∀ M', u7 M M' → M' 3 3 = M 3 3 → M' 4 10 = M 4 10 → S7 P M' A (skN A i + 2) k → tn7 P (nI own) (nI (10 * n1 + n2)) M' Q) → w_X7_target P (nI own) M Q := by
        intro P M k Q hs hK
        refine cls P M k Q hs (fun M' g e3 e10 s R4 h4 => ⟨fun _ => ?_, fun z => absurd hd2 z⟩)
        rw [en2, ev2]
        obtain ⟨g2, f3, f10, s2⟩ := s.inc'
        exact h4 _ _ (hK _ (g.trans g2) (f3.trans e3) (f10.trans e10) s2)
      rcases num_jo hT ho (show 10 * n1 + n2 < 100 by omega) (show 1 ≤ skN A i + 2 by omega) (by omega) with ⟨p, p1, p2, p3⟩ | ⟨i', rv, e1, e2, e3, e4, e5⟩
      · exact Or.inl ⟨p, p1, fun P M Q hs hk => ref2 P M Q hs (fun M' g e s => p2 P M' Q s (fun M2 g2 e2 => hk M2 (g.trans g2) e2)), fun P M k Q hs hk => cls2 P M k Q hs (fun M' g _ _ s => p3 P M' k Q s (fun M2 g2 e2 => hk M2 (g.trans g2) e2))⟩
      · exact Or.inr ⟨i', rv, by omega, e2, e3, fun P M h Q hs hh h12 hk => ref2 P M Q hs (fun M' g e s => e4 P M' h Q s (e.trans hh) h12 (fun M2 g2 s2 e2 => hk M2 (g.trans g2) s2 e2)), fun P M k h Q hs hh h12 hk => cls2 P M k Q hs (fun M' g f3 f10 s => e5 P M' k h Q s (f10.trans hh) h12 (fun M2 g2 f4 s2 e2 => hk M2 (g.trans g2) (f4.trans f3) s2 e2))⟩
    · have ref2 : ∀ (P : jP) (M : jM) (Q : Int32 → jM → Prop), S12 M A 0 i 0 → (∀ M', u12 M M' → M' 1 16 = M 1 16 → S12 M' A 0 (skN A i + 1) 0 → tn12 P (nI own) (nI n1) M' Q) → w_X12_target P (nI own) M Q := by
        intro P M Q hs hK
        exact ref P M Q hs (fun M' g e s R139 h139 => ⟨fun z => absurd z hd2, fun _ => h139 _ _ (hK M' g e s)⟩)
      have cls2 : ∀ (P : jP) (M : jM) (k : Nat) (Q : Int32 → jM → Prop), S7 P M A i k → (∀ M', u7 M M' → M' 3 3 = M 3 3 → M' 4 10 = M 4 10 → S7 P M' A (skN A i + 1) k → tn7 P (nI own) (nI n1) M' Q) → w_X7_target P (nI own) M Q := by
        intro P M k Q hs hK
        exact cls P M k Q hs (fun M' g e3 e10 s R4 h4 => ⟨fun z => absurd z hd2, fun _ => hK M' g e3 e10 s⟩)
      rcases num_jo hT ho (show n1 < 100 by omega) (show 1 ≤ skN A i + 1 by omega) (by omega) with ⟨p, p1, p2, p3⟩ | ⟨i', rv, e1, e2, e3, e4, e5⟩
      · exact Or.inl ⟨p, p1, fun P M Q hs hk => ref2 P M Q hs (fun M' g e s => p2 P M' Q s (fun M2 g2 e2 => hk M2 (g.trans g2) e2)), fun P M k Q hs hk => cls2 P M k Q hs (fun M' g _ _ s => p3 P M' k Q s (fun M2 g2 e2 => hk M2 (g.trans g2) e2))⟩
      · exact Or.inr ⟨i', rv, by omega, e2, e3, fun P M h Q hs hh h12 hk => ref2 P M Q hs (fun M' g e s => e4 P M' h Q s (e.trans hh) h12 (fun M2 g2 s2 e2 => hk M2 (g.trans g2) s2 e2)), fun P M k h Q hs hh h12 hk => cls2 P M k Q hs (fun M' g f3 f10 s => e5 P M' k h Q s (f10.trans hh) h12 (fun M2 g2 f4 s2 e2 => hk M2 (g.trans g2) (f4.trans f3) s2 e2))⟩
  · by_cases h6 : chN A (skN A i) = 61
    · have hlen := ch_len h6 (by omega)
      obtain ⟨m1, m2, m3⟩ := skN_le (A := A) (i := skN A i + 1) (by omega)
      have hc2 := ch_lt hT (skN A (skN A i + 1))
      have i45 : hR A (skN A (skN A i + 1)) = 45 ↔ chN A (skN A (skN A i + 1)) = 45 := hR_eq (v := 45) hT (by omega) (by omega)
      have i48 : hR A (skN A (skN A i + 1)) < 48 ↔ chN A (skN A (skN A i + 1)) < 48 := hR_lt (v := 48) hT (by omega) (by omega)
      have i53 : hR A (skN A (skN A i + 1)) ≤ 53 ↔ chN A (skN A (skN A i + 1)) ≤ 53 := hR_le (v := 53) hT (by omega)
      have d45 : nI (chN A (skN A (skN A i + 1))) = 45 ↔ chN A (skN A (skN A i + 1)) = 45 := nI_32 (v := 45) hT (by omega)
      have d48 : nI (chN A (skN A (skN A i + 1))) < 48 ↔ chN A (skN A (skN A i + 1)) < 48 := nI_ltI (b := 48) (by omega) (by omega)
      have d53 : nI (chN A (skN A (skN A i + 1))) ≤ 53 ↔ chN A (skN A (skN A i + 1)) ≤ 53 := nI_leI (b := 53) (by omega) (by omega)
      have ref : ∀ (P : jP) (M : jM) (Q : Int32 → jM → Prop), S12 M A 0 i 0 → (∀ M39, u12 M M39 → M39 1 16 = M 1 16 → S12 M39 A 0 (skN A (skN A i + 1)) 0 → ((chN A (skN A (skN A i + 1)) = 45 ∨ (48 ≤ chN A (skN A (skN A i + 1)) ∧ chN A (skN A (skN A i + 1)) ≤ 53)) → (∀ R75 : Int32 → Int32 → Prop, (∀ (x41 : Int32) (x42 : Int32), (Q (x41 + x42) (upM M39 1 5 ((M39 1 5) + 1))) → R75 x41 x42) → (¬ hR A (skN A (skN A i + 1)) = 45 → (R75 100 (hR A (skN A (skN A i + 1)) - 48))) ∧ (hR A (skN A (skN A i + 1)) = 45 → (R75 100 (-1))))) ∧ (¬ (chN A (skN A (skN A i + 1)) = 45 ∨ (48 ≤ chN A (skN A (skN A i + 1)) ∧ chN A (skN A (skN A i + 1)) ≤ 53)) → w_X12_fails P M39 (fun r45 M46 => Q 0 M46))) → w_X12_target P (nI own) M Q := by
        intro P M Q hs hK
        unfold w_X12_target
        refine hs.look hT hi (fun M2 g s => bn_t (h61.mpr h6) (s.inc.2.look hT (by omega) (fun M39 g2 s2 => ?_)))
        obtain ⟨w1, w2⟩ := hK M39 (u12.of ((g.trans s.inc.1).trans g2)) (by rw [g2.2 16 (by omega) (by omega) (by omega), up_at, if_neg (by omega), g.2 16 (by omega) (by omega) (by omega)]) s2
        intro R49 h49
        refine bn3' (fun z => h49 (w1 (Or.inl (i45.mp z)))) (fun z => ?_)
        intro R42 h42
        refine br_c (fun y => h42 (w2 (fun t => ?_))) (fun y => br_c (fun x => h49 (w1 (Or.inr ⟨by rw [i48] at y; omega, i53.mp x⟩))) (fun x => h42 (w2 (fun t => ?_))))
        · rw [i45] at z; rw [i48] at y; omega
        · rw [i45] at z; rw [i48] at y; rw [i53] at x; omega
      have cls : ∀ (P : jP) (M : jM) (k : Nat) (Q : Int32 → jM → Prop), S7 P M A i k → (∀ M9, u7 M M9 → M9 3 3 = M 3 3 → M9 4 10 = M 4 10 → S7 P M9 A (skN A (skN A i + 1)) k → ((chN A (skN A (skN A i + 1)) = 45 ∨ (48 ≤ chN A (skN A (skN A i + 1)) ∧ chN A (skN A (skN A i + 1)) ≤ 53)) → (∀ R112 : Int32 → Int32 → Prop, (∀ (x11 : Int32) (x12 : Int32), (Q (x11 + x12) (upM M9 3 2 ((M9 3 2) + 1))) → R112 x11 x12) → (¬ nI (chN A (skN A (skN A i + 1))) = 45 → (R112 13 (nI (chN A (skN A (skN A i + 1))) - 48))) ∧ (nI (chN A (skN A (skN A i + 1))) = 45 → (R112 13 (-1))))) ∧ (¬ (chN A (skN A (skN A i + 1)) = 45 ∨ (48 ≤ chN A (skN A (skN A i + 1)) ∧ chN A (skN A (skN A i + 1)) ≤ 53)) → w_X10_miss P (M9 3 2) M9 (fun r15 M16 => Q (-1) M16))) → w_X7_target P (nI own) M Q := by
        intro P M k Q hs hK
        unfold w_X7_target
        refine hs.next' hT hi (fun M2 g e3 e10 s => ?_)
        intro R26 h26
        have fin : R26 := by
          refine h26 (s.needs' (v := 61) hT k2 (by omega) (fun _ M5 g5 f3 f10 s5 => bn_f (by decide) ?_) (fun z => absurd (by rw [skN_sk hi]; exact h6) z))
          rw [skN_sk hi] at s5
          refine s5.next' hT (by omega) (fun M9 g9 x3 x10 s9 => ?_)
          obtain ⟨w1, w2⟩ := hK M9 ((g.trans g5).trans g9) (x3.trans (f3.trans e3)) (x10.trans (f10.trans e10)) s9
          intro R83 h83
          refine bn3' (fun z => h83 (w1 (Or.inl (d45.mp z)))) (fun z => ?_)
          intro R66 h66
          refine br_c (fun y => h66 (w2 (fun t => ?_))) (fun y => br_c (fun x => h83 (w1 (Or.inr ⟨by rw [d48] at y; omega, d53.mp x⟩))) (fun x => h66 (w2 (fun t => ?_))))
          · rw [d45] at z; rw [d48] at y; omega
          · rw [d45] at z; rw [d48] at y; rw [d53] at x; omega
        exact bn2 (fun z => by have := c48.mp z; omega) (bn3 (c57.mpr (by omega)) fin)
      by_cases hv : chN A (skN A (skN A i + 1)) = 45 ∨ (48 ≤ chN A (skN A (skN A i + 1)) ∧ chN A (skN A (skN A i + 1)) ≤ 53)
      · have hlen2 : skN A (skN A i + 1) < A.1 1 := ch_len rfl (by omega)
        obtain ⟨s, hs6, es⟩ : ∃ s, s ≤ 6 ∧ s = if chN A (skN A (skN A i + 1)) = 45 then 0 else chN A (skN A (skN A i + 1)) - 47 := ⟨_, by split <;> omega, rfl⟩
        refine Or.inr ⟨skN A (skN A i + 1) + 1, 99 + s, by omega, by omega, Or.inr ⟨by omega, by omega⟩, fun P M h Q hs hh h12 hk => ref P M Q hs (fun M39 g e s9 => ⟨fun _ => ?_, fun z => absurd hv z⟩), fun P M k h Q hs hh h12 hk => cls P M k Q hs (fun M9 g e3 e10 s9 => ⟨fun _ => ?_, fun z => absurd hv z⟩)⟩
        · obtain ⟨g2, s2⟩ := s9.inc
          have fin := hk _ (g.trans (u12.of g2)) s2 (by rw [up_at, if_neg (by omega), e, hh]; unfold hiT; rw [if_neg (by omega)])
          intro R75 h75
          refine bn_c (fun z => h75 _ _ ?_) (fun z => h75 _ _ ?_)
          · rw [i45] at z
            rw [if_neg z] at es
            have hR2 : hR A (skN A (skN A i + 1)) = nI ((s - 1) + 48) := by
              unfold hR
              rw [if_pos hlen2]; congr 1; omega
            rw [hR2, e48, show (100 : Int32) = nI 100 from rfl, nI_add, show 100 + (s - 1) = 99 + s by omega]
            exact fin
          · rw [i45] at z
            rw [if_pos z] at es
            rw [show (100 : Int32) + (-1) = nI 99 from by decide, show 99 = 99 + s by omega]
            exact fin
        · obtain ⟨g2, f3, f10, s2⟩ := s9.inc'
          have fin := hk _ (g.trans g2) (f3.trans e3) s2 (by rw [f10, e10, hh]; unfold hiT; rw [if_neg (by omega)])
          rw [tconv_hi hs6] at fin
          intro R112 h112
          refine bn_c (fun z => h112 _ _ ?_) (fun z => h112 _ _ ?_)
          · rw [d45] at z
            rw [if_neg z] at es
            rw [show chN A (skN A (skN A i + 1)) = (s - 1) + 48 by omega, e48, show (13 : Int32) = nI 13 from rfl, nI_add, show 13 + (s - 1) = 12 + s by omega]
            exact fin
          · rw [d45] at z
            rw [if_pos z] at es
            rw [show (13 : Int32) + (-1) = nI 12 from by decide, show 12 = 12 + s by omega]
            exact fin
      · exact Or.inl ⟨skN A (skN A i + 1), m2, fun P M Q hs hk => ref P M Q hs (fun M39 g e s => ⟨fun z => absurd z hv, fun _ => s.fails (fun M2 g2 e2 => hk M2 (g.trans (u12.of g2)) e2)⟩), fun P M k Q hs hk => cls P M k Q hs (fun M9 g e3 e10 s => ⟨fun z => absurd z hv, fun _ => s.miss' (fun M2 g2 e2 => hk M2 (g.trans g2) e2)⟩)⟩
    · refine Or.inl ⟨skN A i, k2, fun P M Q hs hk => ?_, fun P M k Q hs hk => ?_⟩
      · unfold w_X12_target
        exact hs.look hT hi (fun M2 g s => bn_f (fun z => h6 (h61.mp z)) (s.digit hT k2 (br_j (fun z => absurd z hd) (fun _ => s.fails (fun M3 g3 e => hk M3 (u12.of (g.trans g3)) e)))))
      · unfold w_X7_target
        refine hs.next' hT hi (fun M2 g e3 e10 s => ?_)
        intro R26 h26
        have fin : R26 := by
          refine h26 (s.needs' (v := 61) hT k2 (by omega) (fun z => absurd (by rw [skN_sk hi] at z; exact z) h6) (fun _ M5 g5 e5 => bn_t rfl (hk M5 (g.trans g5) ?_)))
          rw [skN_sk hi] at e5
          exact e5
        exact br_c (fun _ => fin) (fun z => bn3 (c57.mpr (by rw [c48] at z; omega)) fin)
