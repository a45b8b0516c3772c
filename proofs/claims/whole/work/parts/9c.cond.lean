/-! reading: a condition, both sides -/
abbrev jT7 : Type := (jP → Int32 → jM → (Int32 → jM → Prop) → Prop) × (jP → Int32 → Int32 → jM → (Int32 → jM → Prop) → Prop) × (jP → Int32 → jM → (Int32 → jM → Prop) → Prop) × (jP → Int32 → jM → (Int32 → jM → Prop) → Prop)
theorem unit_jo {A : aS} (hT : wfT A) (h160 : A.1 1 ≤ 160) (h9 : A.1 0 ≤ 9) {d w : Nat} {r12 : jT × jT × jT} {r7 r7' : jT7} (hd : d ≤ 6) (hw : 1 ≤ w) (hn : r7.2.1 = wb_X7_nested r7')
    (hC : d < 6 → ∀ i, i ≤ A.1 1 → jo r12.1 (fun P M Q => r7'.1 P (nI (d + 1)) M Q) A (d + 1) i w)
    (hU : d < 6 → ∀ i, i ≤ A.1 1 → jo r12.2.2 (fun P M Q => r7'.2.2.2 P (nI (d + 1)) M Q) A (d + 1) i w) {i : Nat} (hi : i ≤ A.1 1) :
    jo (wb_X12_unit r12) (fun P M Q => wb_X7_unit r7 P (nI d) M Q) A d i w := by
  obtain ⟨k1, k2, k3⟩ := skN_le hi
  have h33 : hR A (skN A i) = 33 ↔ chN A (skN A i) = 33 := hR_eq (v := 33) hT (by omega) (by omega)
  have h40 : hR A (skN A i) = 40 ↔ chN A (skN A i) = 40 := hR_eq (v := 40) hT (by omega) (by omega)
  have n33 : nI (chN A (skN A i)) = 33 ↔ chN A (skN A i) = 33 := nI_32 (v := 33) hT (by omega)
  have n40 : nI (chN A (skN A i)) = 40 ↔ chN A (skN A i) = 40 := nI_32 (v := 40) hT (by omega)
  have hc := ch_lt hT (skN A i)
  have l49 : hR A (skN A i) < 49 ↔ chN A (skN A i) < 49 := hR_lt (v := 49) hT (by omega) (by omega)
  have l57 : 57 < hR A (skN A i) ↔ 57 < chN A (skN A i) := hR_gt (v := 57) hT (by omega)
  have c49 : nI (chN A (skN A i)) < 49 ↔ chN A (skN A i) < 49 := nI_ltI (b := 49) (by omega) (by omega)
  have c57 : 57 < nI (chN A (skN A i)) ↔ 57 < chN A (skN A i) := nI_ltI (a := 57) (by omega) (by omega)
  have d6 : (6 : Int32) ≤ nI d ↔ 6 ≤ d := nI_leI (a := 6) (by omega) (by omega)
  by_cases hn1 : chN A (skN A i) = 33
  · -- not
    have hlen := ch_len hn1 (by omega)
    by_cases hd6 : d = 6
    · subst hd6
      refine Or.inl ⟨skN A i, k2, fun P c M Q hc hs hq => ?_, fun P M k Q hs hk hq => ?_⟩
      · unfold wb_X12_unit
        exact hs.look hT hi (fun M2 g s => bn_t (h33.mpr hn1) (s.in6 (fun M3 g3 e => bn_t rfl (hq 0 M3 (Or.inl rfl) (g.trans g3) e))))
      · unfold wb_X7_unit
        refine hs.next hT hi (fun M2 g e s => ?_)
        intro R20 h20
        exact br_t (n33.mpr hn1) (h20 (br_t (d6.mpr (by omega)) (s.miss (fun M3 g3 e3 => ⟨jb_0, hq M3 (g.trans g3 (Nat.le_refl k)) e3⟩))))
    · have ref : ∀ (P : jP) (c : Nat) (M : jM) (Q : Int32 → jM → Prop), c < 512 → S12 M A c i d → (∀ M', f12 M M' → S12 M' A c (skN A i + 1) (d + 1) → r12.2.2 P M' (fun r40 M41 => (¬ r40 = 0 → ( Q 0 (upM M41 1 7 ((M41 1 7) - 1)) )) ∧ (r40 = 0 → ( Q 1 (upM M41 1 7 ((M41 1 7) - 1)) )))) → wb_X12_unit r12 P M Q := by
        intro P c M Q hc hs hk
        unfold wb_X12_unit
        exact hs.look hT hi (fun M2 g s => bn_t (h33.mpr hn1) (s.in_ (by omega) (fun M3 g3 s3 => bn_f (by decide) (hk M3 (g.trans g3) s3))))
      have cls : ∀ (P : jP) (M : jM) (k : Nat) (Q : Int32 → jM → Prop), S7 P M A i k → (∀ M', f11 k M M' → M' 3 3 = M 3 3 → S7 P M' A (skN A i + 1) k → r7'.2.2.2 P (nI (d + 1)) M' (fun r10 M11 => (r10 = 0 → ( jb 0 ∧ Q 0 M11 )) ∧ (¬ r10 = 0 → ( w_X7_emit P 1 M11 (fun r14 M15 => (r14 = 0 → ( jb 0 ∧ Q 0 M15 )) ∧ (¬ r14 = 0 → ( jb 1 ∧ Q 1 M15 ))) )))) → wb_X7_unit r7 P (nI d) M Q := by
        intro P M k Q hs hk
        unfold wb_X7_unit
        refine hs.next hT hi (fun M2 g e s => ?_)
        intro R20 h20
        refine br_t (n33.mpr hn1) (h20 (br_f (fun z => by have := d6.mp z; omega) ?_))
        rw [hn]
        unfold wb_X7_nested
        obtain ⟨g2, e2, s2⟩ := s.inc
        rw [nI_1]
        exact bn_t (n33.mpr hn1) (hk _ (g.trans g2 (Nat.le_refl k)) (e2.trans e) s2)
      rcases hU (by omega) (skN A i + 1) (by omega) with ⟨p, p1, p2, p3⟩ | ⟨i1, L1, val, e1, e2, e3, e4, e5, e6⟩
      · refine Or.inl ⟨p, p1, fun P c M Q hc hs hq => ref P c M Q hc hs (fun M' g s => p2 P c M' _ hc s (fun v M2 hv g2 e => ?_)), fun P M k Q hs hk hq => cls P M k Q hs (fun M' g e s => p3 P M' k _ s (by omega) (fun M2 g2 e2 => br_t rfl ⟨jb_0, hq M2 (g.trans g2 (Nat.le_refl k)) e2⟩))⟩
        have g3 : f12 M (upM M2 1 7 (M2 1 7 - 1)) := (g.trans g2).trans (f12.up (by omega) _)
        have e3 : (upM M2 1 7 (M2 1 7 - 1)) 1 6 = nI p := by rw [up_at, if_neg (by omega)]; exact e
        exact ⟨fun _ => hq 0 _ (Or.inl rfl) g3 e3, fun _ => hq 1 _ (Or.inr rfl) g3 e3⟩
      · refine Or.inr ⟨i1, L1 ++ [1], fun c => !val c, by omega, e2, by rw [List.length_append, List.length_singleton]; omega, e4.not hw, fun P c M Q hc hs hq => ref P c M Q hc hs (fun M' g s => e5 P c M' _ hc s (fun M2 g2 s2 => ?_)), fun P M k Q hs hk hq => cls P M k Q hs (fun M' g e s => e6 P M' k _ s (by omega) (fun M2 g2 a1 a2 a3 a4 => br_f (by decide) (S7.emit (A := A) (i := i1) ⟨s.1.f11 g2, a2, a3⟩ (by omega) (fun M3 g3 b1 s3 b2 => br_f (by decide) ⟨jb_1, hq M3 ((g.trans g2 (Nat.le_refl k)).trans g3 (by omega)) (b1.trans (a1.trans e)) s3.2.1 ?_ (fun j hj => ?_)⟩))))⟩
        · obtain ⟨g3, s3⟩ := s2.out
          have hqq : Q (bi ((!val c) = true)) (upM M2 1 7 (M2 1 7 - 1)) := hq _ ((g.trans g2).trans g3) s3
          cases hv : val c with
          | true => rw [hv] at hqq; exact bn_f (by decide) hqq
          | false => rw [hv] at hqq; exact bn_t rfl hqq
        · rw [s3.2.2, List.length_append, List.length_singleton, Nat.add_assoc]
        · rw [List.length_append, List.length_singleton] at hj
          rw [getD_app]
          by_cases z : j < L1.length
          · rw [if_pos z, g3.2.2.2 _ (by omega)]
            exact a4 j z
          · rw [if_neg z, show j = L1.length by omega, Nat.sub_self]
            exact b2
  · by_cases hn2 : chN A (skN A i) = 40
    · -- a condition in brackets
      have hlen := ch_len hn2 (by omega)
      by_cases hd6 : d = 6
      · subst hd6
        refine Or.inl ⟨skN A i, k2, fun P c M Q hc hs hq => ?_, fun P M k Q hs hk hq => ?_⟩
        · unfold wb_X12_unit
          exact hs.look hT hi (fun M2 g s => bn_f (fun z => hn1 (h33.mp z)) (bn_t (h40.mpr hn2) (s.in6 (fun M3 g3 e => bn_t rfl (hq 0 M3 (Or.inl rfl) (g.trans g3) e)))))
        · unfold wb_X7_unit
          refine hs.next hT hi (fun M2 g e s => ?_)
          intro R20 h20
          exact br_f (fun z => hn1 (n33.mp z)) (bn_t (n40.mpr hn2) (h20 (br_t (d6.mpr (by omega)) (s.miss (fun M3 g3 e3 => ⟨jb_0, hq M3 (g.trans g3 (Nat.le_refl k)) e3⟩)))))
      · have ref : ∀ (P : jP) (c : Nat) (M : jM) (Q : Int32 → jM → Prop), c < 512 → S12 M A c i d → (∀ M', f12 M M' → S12 M' A c (skN A i + 1) (d + 1) → r12.1 P M' (fun r28 M29 => w_X12_takes P 41 M29 (fun r31 M32 => (¬ r31 = 0 → ( jb r28 ∧ Q r28 (upM M32 1 7 ((M32 1 7) - 1)) )) ∧ (r31 = 0 → ( Q 0 M32 ))))) → wb_X12_unit r12 P M Q := by
          intro P c M Q hc hs hk
          unfold wb_X12_unit
          exact hs.look hT hi (fun M2 g s => bn_f (fun z => hn1 (h33.mp z)) (bn_t (h40.mpr hn2) (s.in_ (by omega) (fun M3 g3 s3 => bn_f (by decide) (hk M3 (g.trans g3) s3)))))
        have cls : ∀ (P : jP) (M : jM) (k : Nat) (Q : Int32 → jM → Prop), S7 P M A i k → (∀ M', f11 k M M' → M' 3 3 = M 3 3 → S7 P M' A (skN A i + 1) k → r7'.1 P (nI (d + 1)) M' (fun r2 M3 => (r2 = 0 → ( jb 0 ∧ Q 0 M3 )) ∧ (¬ r2 = 0 → ( w_X10_needs P 41 M3 (fun r6 M7 => (r6 = 0 → ( jb 0 ∧ Q 0 M7 )) ∧ (¬ r6 = 0 → ( jb 1 ∧ Q 1 M7 ))) )))) → wb_X7_unit r7 P (nI d) M Q := by
          intro P M k Q hs hk
          unfold wb_X7_unit
          refine hs.next hT hi (fun M2 g e s => ?_)
          intro R20 h20
          refine br_f (fun z => hn1 (n33.mp z)) (bn_t (n40.mpr hn2) (h20 (br_f (fun z => by have := d6.mp z; omega) ?_)))
          rw [hn]
          unfold wb_X7_nested
          obtain ⟨g2, e2, s2⟩ := s.inc
          rw [nI_1]
          exact bn_f (fun z => hn1 (n33.mp z)) (hk _ (g.trans g2 (Nat.le_refl k)) (e2.trans e) s2)
        rcases hC (by omega) (skN A i + 1) (by omega) with ⟨p, p1, p2, p3⟩ | ⟨i1, L1, val, e1, e2, e3, e4, e5, e6⟩
        · exact Or.inl ⟨p, p1, fun P c M Q hc hs hq => ref P c M Q hc hs (fun M' g s => p2 P c M' _ hc s (fun v M2 hv g2 e => s12_takesF e (by omega) (bn_t rfl (hq 0 M2 (Or.inl rfl) (g.trans g2) e)))), fun P M k Q hs hk hq => cls P M k Q hs (fun M' g e s => p3 P M' k _ s (by omega) (fun M2 g2 e2 => br_t rfl ⟨jb_0, hq M2 (g.trans g2 (Nat.le_refl k)) e2⟩))⟩
        · obtain ⟨m1, m2, m3⟩ := skN_le e2
          by_cases h41 : chN A (skN A i1) = 41
          · have hlen2 := ch_len h41 (by omega)
            refine Or.inr ⟨skN A i1 + 1, L1, val, by omega, by omega, by omega, e4, fun P c M Q hc hs hq => ref P c M Q hc hs (fun M' g s => e5 P c M' _ hc s (fun M2 g2 s2 => s2.takes (v := 41) hT e2 (by omega) (by omega) (fun _ M3 g3 s3 => bn_f (by decide) ⟨bi_jb, hq _ (((g.trans g2).trans g3).trans s3.out.1) s3.out.2⟩) (fun z => absurd h41 z))), fun P M k Q hs hk hq => cls P M k Q hs (fun M' g e s => e6 P M' k _ s (by omega) (fun M2 g2 a1 a2 a3 a4 => br_f (by decide) (S7.needs (v := 41) hT e2 ⟨s.1.f11 g2, a2, a3⟩ (by omega) (fun _ M3 g3 b1 s3 => br_f (by decide) ⟨jb_1, hq M3 ((g.trans g2 (Nat.le_refl k)).trans g3 (by omega)) (b1.trans (a1.trans e)) s3.2.1 s3.2.2 (fun j hj => ?_)⟩) (fun z => absurd h41 z))))⟩
            rw [g3.2.2.2 _ (by omega)]
            exact a4 j hj
          · exact Or.inl ⟨skN A i1, m2, fun P c M Q hc hs hq => ref P c M Q hc hs (fun M' g s => e5 P c M' _ hc s (fun M2 g2 s2 => s2.takes (v := 41) hT e2 (by omega) (by omega) (fun z => absurd z h41) (fun _ M3 g3 e => bn_t rfl (hq 0 M3 (Or.inl rfl) ((g.trans g2).trans g3) e)))), fun P M k Q hs hk hq => cls P M k Q hs (fun M' g e s => e6 P M' k _ s (by omega) (fun M2 g2 a1 a2 a3 a4 => br_f (by decide) (S7.needs (v := 41) hT e2 ⟨s.1.f11 g2, a2, a3⟩ (by omega) (fun z => absurd z h41) (fun _ M3 g3 e3 => br_t rfl ⟨jb_0, hq M3 ((g.trans g2 (Nat.le_refl k)).trans g3 (by omega)) e3⟩))))⟩
    · have refN : ∀ (P : jP) (c : Nat) (M : jM) (Q : Int32 → jM → Prop), c < 512 → S12 M A c i d → (∀ M2, f12 M M2 → S12 M2 A c (skN A i) d → w_X12_isFact P (hR A (skN A i)) M2 (fun r6 => (r6 = 0 → ( ∀ R135 : Prop, (( w_X12_fails P M2 (fun r10 M11 => jb r10 ∧ Q r10 M11) ) → R135) → (hR A (skN A i) < 49 → ( R135 )) ∧ (¬ hR A (skN A i) < 49 → ( (57 < hR A (skN A i) → ( R135 )) ∧ (¬ 57 < hR A (skN A i) → ( w_X12_some P M2 (fun r16 M17 => jb r16 ∧ Q r16 M17) )) )) )) ∧ (¬ r6 = 0 → ( w_X12_has P ((upM M2 1 5 ((M2 1 5) + 1)) 1 8) (hR A (skN A i) - 97) (fun r20 => jb r20 ∧ Q r20 (upM M2 1 5 ((M2 1 5) + 1))) )))) → wb_X12_unit r12 P M Q := by
        intro P c M Q hc hs hk
        unfold wb_X12_unit
        exact hs.look hT hi (fun M2 g s => bn_f (fun z => hn1 (h33.mp z)) (bn_f (fun z => hn2 (h40.mp z)) (hk M2 g s)))
      have clsN : ∀ (P : jP) (M : jM) (k : Nat) (Q : Int32 → jM → Prop), S7 P M A i k → (∀ M2, f11 k M M2 → M2 3 3 = M 3 3 → S7 P M2 A (skN A i) k → ∀ R73 : Prop, (( w_X7_isLetter P (nI (chN A (skN A i))) M2 (fun r15 => (¬ r15 = 0 → ( w_X7_atLeast P 1 ((1 : Int32) <<< ((nI (chN A (skN A i)) - 97) &&& 31)) (fun r19 => w_X7_emit P r19 (upM M2 3 2 ((M2 3 2) + 1)) (fun r22 M23 => jb r22 ∧ Q r22 M23)) )) ∧ (r15 = 0 → ( w_X10_miss P (M2 3 2) M2 (fun r26 M27 => jb r26 ∧ Q r26 M27) ))) ) → R73) → (nI (chN A (skN A i)) < 49 → ( R73 )) ∧ (¬ nI (chN A (skN A i)) < 49 → ( (57 < nI (chN A (skN A i)) → ( R73 )) ∧ (¬ 57 < nI (chN A (skN A i)) → ( w_X7_several P (nI (chN A (skN A i)) - 48) M2 (fun r32 M33 => jb r32 ∧ Q r32 M33) )) ))) → wb_X7_unit r7 P (nI d) M Q := by
        intro P M k Q hs hk
        unfold wb_X7_unit
        refine hs.next hT hi (fun M2 g e s => ?_)
        intro R20 h20
        exact br_f (fun z => hn1 (n33.mp z)) (bn_f (fun z => hn2 (n40.mp z)) (hk M2 g e s))
      by_cases hF : isF A (skN A i)
      · -- a fact
        have hlen := F_len hF
        obtain ⟨f, hf, ef⟩ : ∃ f, f < 9 ∧ chN A (skN A i) = 97 + f := ⟨chN A (skN A i) - 97, by omega, by omega⟩
        have e97 : nI (97 + f) - 97 = nI f := by
          rw [show (97 : Int32) = nI 97 from rfl, pk_sub (by omega)]
          congr 1; omega
        have hRf : hR A (skN A i) - 97 = nI f := by rw [hR_F hF, ef]; exact e97
        have hCf : nI (chN A (skN A i)) - 97 = nI f := by rw [ef]; exact e97
        have h2f : 2 ^ f < 512 := Nat.pow_lt_pow_right (by omega) hf
        refine Or.inr ⟨skN A i + 1, [atI 1 (2 ^ f)], fun c => decide (1 ≤ popc (2 ^ f &&& c)), by omega, by omega, by show 1 ≤ _; omega, (cOK_at (by omega) h2f).mono hw, fun P c M Q hc hs hq => refN P c M Q hc hs (fun M2 g s => s12_isFact s.1 hT (br_i (fun z => absurd hF z) (fun _ => ?_))), fun P M k Q hs hk hq => clsN P M k Q hs (fun M2 g e s => ?_)⟩
        · obtain ⟨g2, s2⟩ := s.inc
          rw [s2.2.2.2.2, hRf]
          have this : Q (bi (decide (1 ≤ popc (2 ^ f &&& c)) = true)) (upM M2 1 5 (M2 1 5 + 1)) := hq _ (g.trans g2) s2
          rw [popc_bit f hf c hc] at this
          exact s12_has (by omega) (by omega) ⟨bi_jb, this⟩
        · intro R73 h73
          obtain ⟨g2, e2, s2⟩ := s.inc
          have fin : R73 := by
            refine h73 (s11_isLetter s.1 hT (br_j (fun _ => ?_) (fun z => absurd hF z)))
            rw [hCf, shl_1 (by omega)]
            refine atI_of (least := 1) h2f (s2.emit (by omega) (fun M3 g3 e3 s3 e4 => ⟨jb_1, hq M3 ((g.trans g2 (Nat.le_refl k)).trans g3 (Nat.le_refl k)) (e3.trans (e2.trans e)) s3.2.1 s3.2.2 (fun j hj => ?_)⟩))
            have hj0 : j = 0 := Nat.lt_one_iff.mp hj
            subst hj0
            exact e4
          exact br_f (fun z => by have := c49.mp z; omega) (br_t (c57.mpr (by omega)) fin)
      · by_cases hdig : 49 ≤ chN A (skN A i) ∧ chN A (skN A i) ≤ 57
        · -- so many of some
          have ref : ∀ (P : jP) (c : Nat) (M : jM) (Q : Int32 → jM → Prop), c < 512 → S12 M A c i d → (∀ M2, f12 M M2 → S12 M2 A c (skN A i) d → w_X12_some P M2 (fun r16 M17 => jb r16 ∧ Q r16 M17)) → wb_X12_unit r12 P M Q := by
            intro P c M Q hc hs hk
            refine refN P c M Q hc hs (fun M2 g s => s12_isFact s.1 hT (br_i (fun _ => ?_) (fun z => absurd z hF)))
            intro R135 h135
            exact br_f (fun z => by have := l49.mp z; omega) (br_f (fun z => by have := l57.mp z; omega) (hk M2 g s))
          have cls : ∀ (P : jP) (M : jM) (k : Nat) (Q : Int32 → jM → Prop), S7 P M A i k → (∀ M2, f11 k M M2 → M2 3 3 = M 3 3 → S7 P M2 A (skN A i) k → w_X7_several P (nI (chN A (skN A i)) - 48) M2 (fun r32 M33 => jb r32 ∧ Q r32 M33)) → wb_X7_unit r7 P (nI d) M Q := by
            intro P M k Q hs hk
            refine clsN P M k Q hs (fun M2 g e s => ?_)
            intro R73 h73
            exact br_f (fun z => by have := c49.mp z; omega) (br_f (fun z => by have := c57.mp z; omega) (hk M2 g e s))
          rcases some_jo hT h160 h9 (d := d) hdig.1 hdig.2 with ⟨p, p1, p2, p3⟩ | ⟨i1, L1, val, e1, e2, e3, e4, e5, e6⟩
          · exact Or.inl ⟨p, p1, fun P c M Q hc hs hq => ref P c M Q hc hs (fun M' g s => p2 P c M' _ hc s (fun v M2 hv g2 e => ⟨hv.jb, hq v M2 hv (g.trans g2) e⟩)), fun P M k Q hs hk hq => cls P M k Q hs (fun M' g e s => p3 P M' k _ s (by omega) (fun M2 g2 e2 => ⟨jb_0, hq M2 (g.trans g2 (Nat.le_refl k)) e2⟩))⟩
          · exact Or.inr ⟨i1, L1, val, by omega, e2, by omega, e4.mono hw, fun P c M Q hc hs hq => ref P c M Q hc hs (fun M' g s => e5 P c M' _ hc s (fun M2 g2 s2 => ⟨bi_jb, hq M2 (g.trans g2) s2⟩)), fun P M k Q hs hk hq => cls P M k Q hs (fun M' g e s => e6 P M' k _ s (by omega) (fun M2 g2 a1 a2 a3 a4 => ⟨jb_1, hq M2 (g.trans g2 (Nat.le_refl k)) (a1.trans e) a2 a3 a4⟩))⟩
        · -- nothing that a condition begins with
          refine Or.inl ⟨skN A i, k2, fun P c M Q hc hs hq => refN P c M Q hc hs (fun M2 g s => s12_isFact s.1 hT (br_i (fun _ => ?_) (fun z => absurd z hF))), fun P M k Q hs hk hq => clsN P M k Q hs (fun M2 g e s => ?_)⟩
          · intro R135 h135
            have fin : R135 := h135 (s.fails (fun M3 g3 e => ⟨jb_0, hq 0 M3 (Or.inl rfl) (g.trans g3) e⟩))
            exact br_c (fun _ => fin) (fun z => br_t (by rw [l57]; rw [l49] at z; omega) fin)
          · intro R73 h73
            have fin : R73 := h73 (s11_isLetter s.1 hT (br_j (fun z => absurd z hF) (fun _ => s.miss (fun M3 g3 e3 => ⟨jb_0, hq M3 (g.trans g3 (Nat.le_refl k)) e3⟩))))
            exact br_c (fun _ => fin) (fun z => br_t (by rw [c57]; rw [c49] at z; omega) fin)
theorem part_jo {A : aS} (hT : wfT A) (h160 : A.1 1 ≤ 160) {d w : Nat} {r12 : jT × jT × jT} {r7 : jT7} (hw : 1 ≤ w) (hU : ∀ i, i ≤ A.1 1 → jo r12.2.2 (fun P M Q => r7.2.2.2 P (nI d) M Q) A d i w) {i : Nat} (hi : i ≤ A.1 1) : jo (wb_X12_part r12) (fun P M Q => wb_X7_part r7 P (nI d) M Q) A d i (w + 1) :=
  head_T (op := and) (T12 := tl12A) (T7 := tl7A) h160 (fun P v M Q h1 h2 h3 R5 h5 => h5 _ _ ⟨fun _ => ⟨h2, h3⟩, fun z => absurd z h1⟩) (fun P x M Q h R8 h8 => h8 _ _ _ ⟨fun _ => ⟨jb_0, h⟩, fun _ => ⟨fun _ => ⟨jb_0, h⟩, fun z => absurd rfl z⟩⟩) (hU i hi) (fun i' hi' => tails_A hT h160 hw hU (A.1 1 - i') i' (by omega))
theorem cond_jo {A : aS} (hT : wfT A) (h160 : A.1 1 ≤ 160) {d w : Nat} {r12 : jT × jT × jT} {r7 : jT7} (hw : 1 ≤ w) (hU : ∀ i, i ≤ A.1 1 → jo r12.2.1 (fun P M Q => r7.2.2.1 P (nI d) M Q) A d i w) {i : Nat} (hi : i ≤ A.1 1) : jo (wb_X12_condition r12) (fun P M Q => wb_X7_condition r7 P (nI d) M Q) A d i (w + 1) :=
  head_T (op := or) (T12 := tl12O) (T7 := tl7O) h160 (fun P v M Q h1 h2 h3 R5 h5 => h5 _ _ ⟨fun _ => ⟨h2, h3⟩, fun z => absurd z h1⟩) (fun P x M Q h R8 h8 => h8 _ _ _ ⟨fun _ => ⟨jb_0, h⟩, fun _ => ⟨fun _ => ⟨jb_0, h⟩, fun z => absurd rfl z⟩⟩) (hU i hi) (fun i' hi' => tails_O hT h160 hw hU (A.1 1 - i') i' (by omega))
theorem jo.mono {W12 W7 : jT} {A : aS} {d i w w' : Nat} (h : jo W12 W7 A d i w) (hw : w ≤ w') : jo W12 W7 A d i w' := by
  rcases h with h | ⟨i1, L1, val, e1, e2, e3, e4, e5, e6⟩
  · exact Or.inl h
  · exact Or.inr ⟨i1, L1, val, e1, e2, e3, e4.mono hw, e5, e6⟩
theorem all_jo {A : aS} (hT : wfT A) (h160 : A.1 1 ≤ 160) (h9 : A.1 0 ≤ 9) : ∀ r d n m, d + r = 6 → 3 * r + 1 ≤ n → 4 * r + 2 ≤ m →
    (∀ i, i ≤ A.1 1 → jo (wr_X12_condition n).2.2 (fun P M Q => (wr_X7_condition m).2.2.2 P (nI d) M Q) A d i (2 * r + 1)) ∧ (3 * r + 3 ≤ n → 4 * r + 4 ≤ m → ∀ i, i ≤ A.1 1 → jo (wr_X12_condition n).1 (fun P M Q => (wr_X7_condition m).1 P (nI d) M Q) A d i (2 * r + 3)) := by
  intro r
  induction r with
  | zero =>
    intro d n m hd hn hm
    have un : ∀ n m, 1 ≤ n → 2 ≤ m → ∀ i, i ≤ A.1 1 → jo (wr_X12_condition n).2.2 (fun P M Q => (wr_X7_condition m).2.2.2 P (nI d) M Q) A d i 1 := by
      intro n m hn hm i hi
      obtain ⟨n', rfl⟩ : ∃ n', n = n' + 1 := ⟨n - 1, by omega⟩
      obtain ⟨m', rfl⟩ : ∃ m', m = m' + 2 := ⟨m - 2, by omega⟩
      exact unit_jo (r7' := wr_X7_condition m') hT h160 h9 (by omega) (by omega) rfl (fun z => by omega) (fun z => by omega) hi
    refine ⟨un n m (by omega) (by omega), fun hn hm i hi => ?_⟩
    obtain ⟨n', rfl⟩ : ∃ n', n = n' + 2 := ⟨n - 2, by omega⟩
    obtain ⟨m', rfl⟩ : ∃ m', m = m' + 2 := ⟨m - 2, by omega⟩
    exact cond_jo (r12 := wr_X12_condition (n' + 1)) (r7 := wr_X7_condition (m' + 1)) hT h160 (by omega) (fun i hi => part_jo (r12 := wr_X12_condition n') (r7 := wr_X7_condition m') hT h160 (by omega) (un n' m' (by omega) (by omega)) hi) hi
  | succ r ih =>
    intro d n m hd hn hm
    have un : ∀ n m, 3 * (r + 1) + 1 ≤ n → 4 * (r + 1) + 2 ≤ m → ∀ i, i ≤ A.1 1 → jo (wr_X12_condition n).2.2 (fun P M Q => (wr_X7_condition m).2.2.2 P (nI d) M Q) A d i (2 * (r + 1) + 1) := by
      intro n m hn hm i hi
      obtain ⟨n', rfl⟩ : ∃ n', n = n' + 1 := ⟨n - 1, by omega⟩
      obtain ⟨m', rfl⟩ : ∃ m', m = m' + 2 := ⟨m - 2, by omega⟩
      have ih' := ih (d + 1) n' m' (by omega) (by omega) (by omega)
      exact unit_jo (r7' := wr_X7_condition m') hT h160 h9 (by omega) (by omega) rfl (fun _ i hi => (ih'.2 (by omega) (by omega) i hi).mono (by omega)) (fun _ i hi => (ih'.1 i hi).mono (by omega)) hi
    refine ⟨un n m (by omega) (by omega), fun hn hm i hi => ?_⟩
    obtain ⟨n', rfl⟩ : ∃ n', n = n' + 2 := ⟨n - 2, by omega⟩
    obtain ⟨m', rfl⟩ : ∃ m', m = m' + 2 := ⟨m - 2, by omega⟩
    exact cond_jo (r12 := wr_X12_condition (n' + 1)) (r7 := wr_X7_condition (m' + 1)) hT h160 (by omega) (fun i hi => part_jo (r12 := wr_X12_condition n') (r7 := wr_X7_condition m') hT h160 (by omega) (un n' m' (by omega) (by omega)) hi) hi
