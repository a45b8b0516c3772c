/-! reading: so many at least of some facts, both sides -/
def ls12 (P : jP) (r1 : Int32) (x : Int32) (M : jM) (Q : Int32 → jM → Prop) : Prop := ∀ R44 : Int32 → jM → Prop, (∀ (x9 : Int32) (M10 : jM), ( w_X12_look P M10 (fun r11 M12 => w_X12_isFact P r11 M12 (fun r14 => (r14 = 0 → ( (¬ x9 = 0 → ( w_J6_bitCount_0f7a4 P (x9 &&& (M12 1 8)) (fun r19 => (r19 < (r1 - 48) → ( Q 0 M12 )) ∧ (¬ r19 < (r1 - 48) → ( Q 1 M12 ))) )) ∧ (x9 = 0 → ( w_X12_fails P M12 (fun r23 M24 => jb r23 ∧ Q r23 M24) )) )) ∧ (¬ r14 = 0 → ( w_X12_here P M12 (fun r27 => w_X12_has P x9 (r27 - 97) (fun r30 => (r30 = 0 → ( w_X12_here P M12 (fun r34 => R44 (x9 ||| ((1 : Int32) <<< ((r34 - 97) &&& 31))) (upM M12 1 5 ((M12 1 5) + 1))) )) ∧ (¬ r30 = 0 → ( w_X12_fails P M12 (fun r37 M38 => jb r37 ∧ Q r37 M38) )))) )))) ) → R44 x9 M10) → R44 x M
def ls7 (P : jP) (a1 : Int32) (x y : Int32) (M : jM) (Q : Int32 → jM → Prop) : Prop := ∀ R57 : Int32 → Int32 → jM → Prop, (∀ (x6 : Int32) (x7 : Int32) (M8 : jM), ( ∀ R137 : jM → Prop, (∀ (M9 : jM), ( (¬ x6 = 0 → ( w_X7_atLeast P a1 x6 (fun r11 => w_X7_emit P r11 M9 (fun r14 M15 => jb r14 ∧ Q r14 M15)) )) ∧ (x6 = 0 → ( w_X10_miss P (M9 3 2) M9 (fun r18 M19 => jb r18 ∧ Q r18 M19) )) ) → R137 M9) → (9 < x7 → ( R137 M8 )) ∧ (¬ 9 < x7 → ( w_X10_next P M8 (fun r23 M24 => w_X7_isLetter P r23 M24 (fun r26 => (r26 = 0 → ( R137 M24 )) ∧ (¬ r26 = 0 → ( w_X10_here P M24 (fun r30 => ((x6 &&& ((1 : Int32) <<< ((r30 - 97) &&& 31))) = 0 → ( R57 (x6 ||| ((1 : Int32) <<< ((r30 - 97) &&& 31))) (x7 + 1) (upM M24 3 2 ((M24 3 2) + 1)) )) ∧ (¬ (x6 &&& ((1 : Int32) <<< ((r30 - 97) &&& 31))) = 0 → ( w_X10_miss P (M24 3 2) M24 (fun r34 M35 => jb r34 ∧ Q r34 M35) ))) )))) )) ) → R57 x6 x7 M8) → R57 x y M
theorem popc_9 : ∀ b, b < 512 → popc b ≤ 9 := by decide +kernel
theorem and_bit : ∀ f, f < 9 → ∀ b, b < 512 → (b &&& 2 ^ f = 0 ↔ b.testBit f = false) := by decide +kernel
theorem or_bit9 : ∀ f, f < 9 → ∀ b, b < 512 → b ||| 2 ^ f < 512 ∧ 0 < b ||| 2 ^ f := by decide +kernel
def lsT (A : aS) (d i b least : Nat) : Prop :=
  (∃ p, p ≤ A.1 1 ∧ (∀ (P : jP) (c : Nat) (M : jM) (Q : Int32 → jM → Prop), c < 512 → S12 M A c i d → (∀ v M', b01 v → f12 M M' → M' 1 6 = nI p → Q v M') → ls12 P (nI (least + 48)) (nI b) M Q) ∧ ∀ (P : jP) (M : jM) (k : Nat) (Q : Int32 → jM → Prop), S7 P M A i k → k + 1 ≤ i → (∀ M', f11 k M M' → M' 3 3 = nI p → Q 0 M') → ls7 P (nI least) (nI b) (nI (popc b)) M Q) ∨
  ∃ i' b', i ≤ i' ∧ i' ≤ A.1 1 ∧ b' < 512 ∧ (∀ (P : jP) (c : Nat) (M : jM) (Q : Int32 → jM → Prop), c < 512 → S12 M A c i d → (∀ M', f12 M M' → S12 M' A c i' d → Q (bi (least ≤ popc (b' &&& c))) M') → ls12 P (nI (least + 48)) (nI b) M Q) ∧ ∀ (P : jP) (M : jM) (k : Nat) (Q : Int32 → jM → Prop), S7 P M A i k → k + 1 ≤ i → (∀ M', f11 k M M' → M' 3 3 = M 3 3 → S7 P M' A i' (k + 1) → M' 18 k = atI least b' → Q 1 M') → ls7 P (nI least) (nI b) (nI (popc b)) M Q
theorem ls_all {A : aS} (hT : wfT A) (h160 : A.1 1 ≤ 160) (h9 : A.1 0 ≤ 9) {d least : Nat} (hl : least ≤ 9) : ∀ r i b, i + r = A.1 1 → b < 512 → lsT A d i b least := by
  intro r
  induction r using Nat.strongRecOn with
  | ind r ih =>
    intro i b hr hb
    have hi : i ≤ A.1 1 := by omega
    obtain ⟨k1, k2, k3⟩ := skN_le hi
    have hp9 := popc_9 b hb
    by_cases hF : isF A (skN A i)
    · have hlen := F_len hF
      have hR := hR_F hF
      obtain ⟨f, hf, ef⟩ : ∃ f, f < 9 ∧ chN A (skN A i) = 97 + f := ⟨chN A (skN A i) - 97, by omega, by omega⟩
      have e97 : nI (97 + f) - 97 = nI f := by
        rw [show (97 : Int32) = nI 97 from rfl, pk_sub (by omega)]
        congr 1; omega
      -- what both come to
      have ref : ∀ (P : jP) (c : Nat) (M : jM) (Q : Int32 → jM → Prop) (R44 : Int32 → jM → Prop), c < 512 → S12 M A c i d → (∀ M', f12 M M' → S12 M' A c (skN A i) d → (b.testBit f = true → w_X12_fails P M' (fun r37 M38 => jb r37 ∧ Q r37 M38)) ∧ (b.testBit f = false → R44 (nI (b ||| 2 ^ f)) (upM M' 1 5 ((M' 1 5) + 1)))) → w_X12_look P M (fun r11 M12 => w_X12_isFact P r11 M12 (fun r14 => (r14 = 0 → ( (¬ nI b = 0 → ( w_J6_bitCount_0f7a4 P (nI b &&& (M12 1 8)) (fun r19 => (r19 < (nI (least + 48) - 48) → ( Q 0 M12 )) ∧ (¬ r19 < (nI (least + 48) - 48) → ( Q 1 M12 ))) )) ∧ (nI b = 0 → ( w_X12_fails P M12 (fun r23 M24 => jb r23 ∧ Q r23 M24) )) )) ∧ (¬ r14 = 0 → ( w_X12_here P M12 (fun r27 => w_X12_has P (nI b) (r27 - 97) (fun r30 => (r30 = 0 → ( w_X12_here P M12 (fun r34 => R44 (nI b ||| ((1 : Int32) <<< ((r34 - 97) &&& 31))) (upM M12 1 5 ((M12 1 5) + 1))) )) ∧ (¬ r30 = 0 → ( w_X12_fails P M12 (fun r37 M38 => jb r37 ∧ Q r37 M38) )))) )))) := by
        intro P c M Q R44 hc hs hk
        refine hs.look hT hi (fun M' g s => s12_isFact s.1 hT (br_i (fun z => absurd hF z) (fun _ => s.here hT k2 ?_)))
        obtain ⟨ka, kb⟩ := hk M' g s
        rw [hR, ef, e97]
        refine s12_has (by omega) (by omega) (br_i (fun z => s.here hT k2 ?_) (fun z => ka z))
        rw [hR, ef, e97, shl_1 (by omega), nI_or]
        exact kb (by cases e : b.testBit f with | true => exact absurd e z | false => rfl)
      have cls : ∀ (P : jP) (M : jM) (k : Nat) (Q : Int32 → jM → Prop) (R57 : Int32 → Int32 → jM → Prop) (R137 : jM → Prop), S7 P M A i k → (∀ M', f11 k M M' → M' 3 3 = M 3 3 → S7 P M' A (skN A i) k → (b.testBit f = true → w_X10_miss P (M' 3 2) M' (fun r34 M35 => jb r34 ∧ Q r34 M35)) ∧ (b.testBit f = false → R57 (nI (b ||| 2 ^ f)) (nI (popc b + 1)) (upM M' 3 2 ((M' 3 2) + 1)))) → (9 < nI (popc b) → ( R137 M )) ∧ (¬ 9 < nI (popc b) → ( w_X10_next P M (fun r23 M24 => w_X7_isLetter P r23 M24 (fun r26 => (r26 = 0 → ( R137 M24 )) ∧ (¬ r26 = 0 → ( w_X10_here P M24 (fun r30 => ((nI b &&& ((1 : Int32) <<< ((r30 - 97) &&& 31))) = 0 → ( R57 (nI b ||| ((1 : Int32) <<< ((r30 - 97) &&& 31))) (nI (popc b) + 1) (upM M24 3 2 ((M24 3 2) + 1)) )) ∧ (¬ (nI b &&& ((1 : Int32) <<< ((r30 - 97) &&& 31))) = 0 → ( w_X10_miss P (M24 3 2) M24 (fun r34 M35 => jb r34 ∧ Q r34 M35) ))) )))) )) := by
        intro P M k Q R57 R137 hs hk
        refine br_f (nI_nlt (a := 9) hp9 (by omega)) (hs.next hT hi (fun M' g e s => s11_isLetter s.1 hT (br_i (fun z => absurd hF z) (fun _ => s.here hT k2 ?_))))
        obtain ⟨ka, kb⟩ := hk M' g e s
        have hle : b &&& 2 ^ f < 512 := Nat.lt_of_le_of_lt Nat.and_le_left hb
        rw [ef, e97, shl_1 (by omega), nI_or, nI_and, nI_1, show (0 : Int32) = nI 0 from rfl, nI_eq (by omega) (by omega), and_bit f hf b hb]
        exact br_c kb (fun z => ka (by cases e : b.testBit f with | true => rfl | false => exact absurd e z))
      cases hbit : b.testBit f with
      | true =>
        refine Or.inl ⟨skN A i, k2, fun P c M Q hc hs hq => ?_, fun P M k Q hs hk hq => ?_⟩
        · intro R44 h44
          exact h44 _ _ (ref P c M Q R44 hc hs (fun M' g s => ⟨fun _ => s.fails (fun M2 g2 e => ⟨jb_0, hq 0 M2 (Or.inl rfl) (g.trans g2) e⟩), fun z => absurd (hbit.symm.trans z) (by decide)⟩))
        · intro R57 h57
          refine h57 _ _ _ ?_
          intro R137 h137
          exact cls P M k Q R57 R137 hs (fun M' g e s => ⟨fun _ => s.miss (fun M2 g2 e2 => ⟨jb_0, hq M2 (g.trans g2 (Nat.le_refl k)) e2⟩), fun z => absurd (hbit.symm.trans z) (by decide)⟩)
      | false =>
        have hb' := or_bit9 f hf b hb
        have hpa : popc (b ||| 2 ^ f) = popc b + 1 := popc_add b hb f hf hbit
        rcases ih (A.1 1 - (skN A i + 1)) (by omega) (skN A i + 1) (b ||| 2 ^ f) (by omega) hb'.1 with ⟨p, p1, p2, p3⟩ | ⟨i', b', e1, e2, e3, e4, e5⟩
        · refine Or.inl ⟨p, p1, fun P c M Q hc hs hq => ?_, fun P M k Q hs hk hq => ?_⟩
          · intro R44 h44
            exact h44 _ _ (ref P c M Q R44 hc hs (fun M' g s => ⟨fun z => absurd (hbit.symm.trans z) (by decide), fun _ => p2 P c _ Q hc s.inc.2 (fun v M2 hv g2 e => hq v M2 hv ((g.trans s.inc.1).trans g2) e) R44 h44⟩))
          · intro R57 h57
            refine h57 _ _ _ ?_
            intro R137 h137
            refine cls P M k Q R57 R137 hs (fun M' g e s => ⟨fun z => absurd (hbit.symm.trans z) (by decide), fun _ => ?_⟩)
            rw [← hpa]
            obtain ⟨g2, g3, s2⟩ := s.inc
            exact p3 P _ k Q s2 (by omega) (fun M2 g4 e2 => hq M2 ((g.trans g2 (Nat.le_refl k)).trans g4 (Nat.le_refl k)) e2) R57 h57
        · refine Or.inr ⟨i', b', by omega, e2, e3, fun P c M Q hc hs hq => ?_, fun P M k Q hs hk hq => ?_⟩
          · intro R44 h44
            exact h44 _ _ (ref P c M Q R44 hc hs (fun M' g s => ⟨fun z => absurd (hbit.symm.trans z) (by decide), fun _ => e4 P c _ Q hc s.inc.2 (fun M2 g2 s2 => hq M2 ((g.trans s.inc.1).trans g2) s2) R44 h44⟩))
          · intro R57 h57
            refine h57 _ _ _ ?_
            intro R137 h137
            refine cls P M k Q R57 R137 hs (fun M' g e s => ⟨fun z => absurd (hbit.symm.trans z) (by decide), fun _ => ?_⟩)
            rw [← hpa]
            obtain ⟨g2, g3, s2⟩ := s.inc
            exact e5 P _ k Q s2 (by omega) (fun M2 g4 e6 s4 e7 => hq M2 ((g.trans g2 (Nat.le_refl k)).trans g4 (Nat.le_refl k)) (e6.trans (g3.trans e)) s4 e7) R57 h57
    · have e48 : nI (least + 48) - 48 = nI least := by
        rw [show (48 : Int32) = nI 48 from rfl, pk_sub (by omega)]
        congr 1
      have ref : ∀ (P : jP) (c : Nat) (M : jM) (Q : Int32 → jM → Prop) (R44 : Int32 → jM → Prop), c < 512 → S12 M A c i d → (∀ M', f12 M M' → S12 M' A c (skN A i) d → (b = 0 → w_X12_fails P M' (fun r37 M38 => jb r37 ∧ Q r37 M38)) ∧ (¬ b = 0 → Q (bi (least ≤ popc (b &&& c))) M')) → w_X12_look P M (fun r11 M12 => w_X12_isFact P r11 M12 (fun r14 => (r14 = 0 → ( (¬ nI b = 0 → ( w_J6_bitCount_0f7a4 P (nI b &&& (M12 1 8)) (fun r19 => (r19 < (nI (least + 48) - 48) → ( Q 0 M12 )) ∧ (¬ r19 < (nI (least + 48) - 48) → ( Q 1 M12 ))) )) ∧ (nI b = 0 → ( w_X12_fails P M12 (fun r23 M24 => jb r23 ∧ Q r23 M24) )) )) ∧ (¬ r14 = 0 → ( w_X12_here P M12 (fun r27 => w_X12_has P (nI b) (r27 - 97) (fun r30 => (r30 = 0 → ( w_X12_here P M12 (fun r34 => R44 (nI b ||| ((1 : Int32) <<< ((r34 - 97) &&& 31))) (upM M12 1 5 ((M12 1 5) + 1))) )) ∧ (¬ r30 = 0 → ( w_X12_fails P M12 (fun r37 M38 => jb r37 ∧ Q r37 M38) )))) )))) := by
        intro P c M Q R44 hc hs hk
        refine hs.look hT hi (fun M' g s => s12_isFact s.1 hT (br_i (fun _ => ?_) (fun z => absurd z hF)))
        obtain ⟨ka, kb⟩ := hk M' g s
        have hle : b &&& c < 512 := Nat.lt_of_le_of_lt Nat.and_le_left hb
        have hp := popc_9 _ hle
        rw [show (0 : Int32) = nI 0 from rfl, nI_eq (by omega) (by omega)]
        refine bn_c (fun z => s_bc ?_) ka
        rw [s.2.2.2.2, nI_and, bc_small _ (by omega), e48, nI_ltI (by omega) (by omega)]
        have kb := kb z
        refine br_c (fun y => ?_) (fun y => ?_)
        · rw [bi_f (by omega)] at kb; exact kb
        · rw [bi_t (by omega)] at kb; exact kb
      have cls : ∀ (P : jP) (M : jM) (k : Nat) (Q : Int32 → jM → Prop) (R57 : Int32 → Int32 → jM → Prop) (R137 : jM → Prop), S7 P M A i k → (∀ M', f11 k M M' → M' 3 3 = M 3 3 → S7 P M' A (skN A i) k → R137 M') → (9 < nI (popc b) → ( R137 M )) ∧ (¬ 9 < nI (popc b) → ( w_X10_next P M (fun r23 M24 => w_X7_isLetter P r23 M24 (fun r26 => (r26 = 0 → ( R137 M24 )) ∧ (¬ r26 = 0 → ( w_X10_here P M24 (fun r30 => ((nI b &&& ((1 : Int32) <<< ((r30 - 97) &&& 31))) = 0 → ( R57 (nI b ||| ((1 : Int32) <<< ((r30 - 97) &&& 31))) (nI (popc b) + 1) (upM M24 3 2 ((M24 3 2) + 1)) )) ∧ (¬ (nI b &&& ((1 : Int32) <<< ((r30 - 97) &&& 31))) = 0 → ( w_X10_miss P (M24 3 2) M24 (fun r34 M35 => jb r34 ∧ Q r34 M35) ))) )))) )) := by
        intro P M k Q R57 R137 hs hk
        exact br_f (nI_nlt (a := 9) hp9 (by omega)) (hs.next hT hi (fun M' g e s => s11_isLetter s.1 hT (br_i (fun _ => hk M' g e s) (fun z => absurd z hF))))
      by_cases z : b = 0
      · refine Or.inl ⟨skN A i, k2, fun P c M Q hc hs hq => ?_, fun P M k Q hs hk hq => ?_⟩
        · intro R44 h44
          exact h44 _ _ (ref P c M Q R44 hc hs (fun M' g s => ⟨fun _ => s.fails (fun M2 g2 e => ⟨jb_0, hq 0 M2 (Or.inl rfl) (g.trans g2) e⟩), fun y => absurd z y⟩))
        · intro R57 h57
          refine h57 _ _ _ ?_
          intro R137 h137
          refine cls P M k Q R57 R137 hs (fun M' g e s => h137 M' (bn_t (by rw [z]; rfl) (s.miss (fun M2 g2 e2 => ⟨jb_0, hq M2 (g.trans g2 (Nat.le_refl k)) e2⟩))))
      · refine Or.inr ⟨skN A i, b, k1, k2, hb, fun P c M Q hc hs hq => ?_, fun P M k Q hs hk hq => ?_⟩
        · intro R44 h44
          exact h44 _ _ (ref P c M Q R44 hc hs (fun M' g s => ⟨fun y => absurd y z, fun _ => hq M' g s⟩))
        · intro R57 h57
          refine h57 _ _ _ ?_
          intro R137 h137
          refine cls P M k Q R57 R137 hs (fun M' g e s => h137 M' (bn_f (nI_ne0 (by omega) (by omega)) (atI_of hb (s.emit (by omega) (fun M2 g2 e2 s2 e3 => ⟨jb_1, hq M2 (g.trans g2 (Nat.le_refl k)) (e2.trans e) s2 e3⟩)))))
theorem some_jo {A : aS} (hT : wfT A) (h160 : A.1 1 ≤ 160) (h9 : A.1 0 ≤ 9) {d q : Nat} (hq1 : 49 ≤ chN A q) (hq2 : chN A q ≤ 57) : jo w_X12_some (fun P M Q => w_X7_several P (nI (chN A q) - 48) M Q) A d q 1 := by
  have hlen : q < A.1 1 := ch_len rfl (by omega)
  obtain ⟨n, hn, en⟩ : ∃ n, n ≤ 9 ∧ chN A q = n + 48 := ⟨chN A q - 48, by omega, by omega⟩
  have hR : hR A q = nI (n + 48) := by
    unfold hR
    rw [if_pos hlen, en]
  have e48 : nI (n + 48) - 48 = nI n := by
    rw [show (48 : Int32) = nI 48 from rfl, pk_sub (by omega)]
    congr 1
  by_cases h35 : chN A (q + 1) = 35
  · have hl2 : q + 1 < A.1 1 := ch_len h35 (by omega)
    have ref : ∀ (P : jP) (c : Nat) (M : jM) (Q : Int32 → jM → Prop), c < 512 → S12 M A c q d → (∀ M', f12 M M' → S12 M' A c (q + 2) d → ls12 P (nI (n + 48)) (nI 0) M' Q) → w_X12_some P M Q := by
      intro P c M Q hc hs hk
      obtain ⟨g1, s1⟩ := hs.inc
      obtain ⟨g2, s2⟩ := s1.inc
      unfold w_X12_some
      refine hs.here hT (by omega) (s1.here hT (by omega) (br_t ((hR_eq (v := 35) hT (by omega) (by omega)).mpr h35) ?_))
      rintro M8 rfl
      rw [hR]
      exact hk _ (g1.trans g2) s2
    have cls : ∀ (P : jP) (M : jM) (k : Nat) (Q : Int32 → jM → Prop), S7 P M A q k → (∀ M', f11 k M M' → M' 3 3 = M 3 3 → S7 P M' A (q + 2) k → ls7 P (nI n) (nI 0) (nI (popc 0)) M' Q) → w_X7_several P (nI (chN A q) - 48) M Q := by
      intro P M k Q hs hk
      obtain ⟨g1, e1, s1⟩ := hs.inc
      obtain ⟨g2, e2, s2⟩ := s1.inc
      unfold w_X7_several
      rw [en, e48]
      refine s1.here hT (by omega) (br_t (by rw [h35]; rfl) ?_)
      rintro M5 rfl
      exact hk _ (g1.trans g2 (Nat.le_refl k)) (e2.trans e1) s2
    rcases ls_all hT h160 h9 (d := d) hn (A.1 1 - (q + 2)) (q + 2) 0 (by omega) (by omega) with ⟨p, p1, p2, p3⟩ | ⟨i', b', e1, e2, e3, e4, e5⟩
    · refine Or.inl ⟨p, p1, fun P c M Q hc hs hq => ref P c M Q hc hs (fun M' g s => p2 P c M' Q hc s (fun v M2 hv g2 e => hq v M2 hv (g.trans g2) e)), fun P M k Q hs hk hq => cls P M k Q hs (fun M' g e s => p3 P M' k Q s (by omega) (fun M2 g2 e2 => hq M2 (g.trans g2 (Nat.le_refl k)) e2))⟩
    · refine Or.inr ⟨i', [atI n b'], fun c => decide (n ≤ popc (b' &&& c)), by omega, e2, by show 1 ≤ _; omega, cOK_at hn e3, fun P c M Q hc hs hq => ref P c M Q hc hs (fun M' g s => e4 P c M' Q hc s (fun M2 g2 s2 => ?_)), fun P M k Q hs hk hq => cls P M k Q hs (fun M' g e s => e5 P M' k Q s (by omega) (fun M2 g2 e6 s4 e7 => hq M2 (g.trans g2 (Nat.le_refl k)) (e6.trans e) s4.2.1 s4.2.2 (fun j hj => ?_)))⟩
      · have := hq M2 (g.trans g2) s2
        have eb : bi (decide (n ≤ popc (b' &&& c)) = true) = bi (n ≤ popc (b' &&& c)) := by
          by_cases z : n ≤ popc (b' &&& c)
          · rw [bi_t z, bi_t (decide_eq_true z)]
          · rw [bi_f z, bi_f (by rw [decide_eq_false z]; decide)]
        rw [eb] at this
        exact this
      · have hj0 : j = 0 := Nat.lt_one_iff.mp hj
        subst hj0
        exact e7
  · refine Or.inl ⟨q + 1, by omega, fun P c M Q hc hs hq => ?_, fun P M k Q hs hk hq => ?_⟩
    · obtain ⟨g1, s1⟩ := hs.inc
      unfold w_X12_some
      refine hs.here hT (by omega) (s1.here hT (by omega) (br_f (fun z => h35 ((hR_eq (v := 35) hT (by omega) (by omega)).mp z)) (s1.fails (fun M' g e => ⟨jb_0, hq 0 M' (Or.inl rfl) (g1.trans g) e⟩))))
    · obtain ⟨g1, e1, s1⟩ := hs.inc
      unfold w_X7_several
      refine s1.here hT (by omega) (br_f (fun z => h35 ((nI_32 (v := 35) hT (by omega)).mp z)) (s1.miss (fun M' g e => ⟨jb_0, hq M' (g1.trans g (Nat.le_refl k)) e⟩)))
