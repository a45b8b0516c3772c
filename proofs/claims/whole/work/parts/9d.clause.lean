/-! reading: a law's clause, both sides -/
theorem condJ {A : aS} (hT : wfT A) (h160 : A.1 1 ≤ 160) (h9 : A.1 0 ≤ 9) {i : Nat} (hi : i ≤ A.1 1) : jo w_X12_condition (fun P M Q => w_X7_condition P 0 M Q) A 0 i 15 :=
  (all_jo hT h160 h9 6 0 40 40 rfl (by omega) (by omega)).2 (by omega) (by omega) i hi
theorem bn2 {c A B : Prop} (h : ¬ c) (b : B) : (c → A) ∧ (¬ c → B) := ⟨fun z => absurd z h, fun _ => b⟩
theorem cOK_ne {val : Nat → Bool} {w : Nat} (hw : w ≤ 64) (h : cOK [] val w) : False := by
  have h1 := (h 0 (by omega) 0 0 (by omega)).1
  have h2 := (h 0 (by omega) 1 0 (by omega)).1
  have e1 : xb (0 : Int64) 0 = true := by rw [show xb (0 : Int64) 0 = val 0 from h1, ← h2]; decide
  exact absurd e1 (by decide)
/-- the code from a to b has this value -/
def segOK (cells : Nat → Int32) (a b : Nat) (val : Nat → Bool) : Prop := ∃ L : List Int32, b = a + L.length ∧ (∀ j, j < L.length → cells (a + j) = L.getD j 0) ∧ cOK L val 15
theorem segOK.agree {f g : Nat → Int32} {a b : Nat} {val : Nat → Bool} (h : segOK f a b val) (he : ∀ j, j < b → g j = f j) : segOK g a b val := by
  obtain ⟨L, h1, h2, h3⟩ := h
  exact ⟨L, h1, fun j hj => (he _ (by omega)).trans (h2 j hj), h3⟩
theorem segOK.lt {f : Nat → Int32} {a b : Nat} {val : Nat → Bool} (h : segOK f a b val) : a < b := by
  obtain ⟨L, h1, h2, h3⟩ := h
  cases L with
  | nil => exact absurd (cOK_ne (by omega) h3) (fun z => z)
  | cons x L => rw [List.length_cons] at h1; omega
def gL (a k : Nat) (M M' : jM) : Prop := (∀ q, q ≠ 3 → q ≠ 4 → ¬ (18 ≤ q ∧ q ≤ 22) → M' q = M q) ∧ (∀ j, j ≠ 2 → j ≠ 3 → M' 3 j = M 3 j) ∧ (∀ j, j ≠ 3 → j ≠ 4 → j ≠ 10 → M' 4 j = M 4 j) ∧ (∀ j, j < a → M' 18 j = M 18 j) ∧ ∀ q, 19 ≤ q → q ≤ 22 → ∀ j, j < k → M' q j = M q j
theorem gL.refl (a k : Nat) (M : jM) : gL a k M M := ⟨fun _ _ _ _ => rfl, fun _ _ _ => rfl, fun _ _ _ _ => rfl, fun _ _ => rfl, fun _ _ _ _ _ => rfl⟩
theorem gL.trans {a k a' k' : Nat} {M M' M2 : jM} (h : gL a k M M') (h' : gL a' k' M' M2) (ha : a ≤ a') (hk : k ≤ k') : gL a k M M2 :=
  ⟨fun q x y z => (h'.1 q x y z).trans (h.1 q x y z), fun j x y => (h'.2.1 j x y).trans (h.2.1 j x y), fun j x y z => (h'.2.2.1 j x y z).trans (h.2.2.1 j x y z), fun j x => (h'.2.2.2.1 j (by omega)).trans (h.2.2.2.1 j x), fun q x y j z => (h'.2.2.2.2 q x y j (by omega)).trans (h.2.2.2.2 q x y j z)⟩
theorem gL.of {a : Nat} {M M' : jM} (h : f11 a M M') (k : Nat) : gL a k M M' :=
  ⟨fun q x y z => h.1 q x y (by omega), h.2.1, fun j x _ _ => h.2.2.1 j x, h.2.2.2, fun q x y j _ => by rw [h.1 q (by omega) (by omega) (by omega)]⟩
theorem gL.put {a k q : Nat} {M : jM} (h1 : 19 ≤ q) (h2 : q ≤ 22) {j : Nat} (hj : k ≤ j) (v : Int32) : gL a k M (upM M q j v) :=
  ⟨fun p x y z => upM_ne _ _ _ (by omega), fun i _ _ => up_of _ _ _ _ (by omega), fun i _ _ _ => up_of _ _ _ _ (by omega), fun i _ => up_of _ _ _ _ (by omega), fun p x y i z => by
    by_cases e : p = q
    · subst e; rw [up_at, if_neg (by omega)]
    · rw [up_of _ _ _ _ e]⟩
theorem gL.put4 {a k : Nat} {M : jM} (v : Int32) : gL a k M (upM M 4 4 v) :=
  ⟨fun p x y z => upM_ne _ _ _ (by omega), fun i _ _ => up_of _ _ _ _ (by omega), fun i _ y _ => by rw [up_at, if_neg y], fun i _ => up_of _ _ _ _ (by omega), fun p x y i z => up_of _ _ _ _ (by omega)⟩
theorem RelC.gL {P : jP} {M M' : jM} {A : aS} {a k : Nat} (h : RelC P M A) (g : gL a k M M') : RelC P M' A := by
  refine h.agree (fun q j hj => ?_) (fun q j hj => ?_)
  · by_cases e3 : q = 3
    · subst e3
      have : j = 1 := hj
      exact g.2.1 j (by omega) (by omega)
    · by_cases e4 : q = 4
      · subst e4
        have : j = 1 ∨ j = 9 := hj
        exact g.2.2.1 j (by omega) (by omega) (by omega)
      · by_cases e18 : 18 ≤ q ∧ q ≤ 22
        · obtain ⟨u1, u2⟩ := e18
          have : q = 18 ∨ q = 19 ∨ q = 20 ∨ q = 21 ∨ q = 22 := by omega
          rcases this with rfl | rfl | rfl | rfl | rfl <;> exact absurd hj (fun z => z)
        · rw [g.1 q e3 e4 e18]
  · have := pCd_ge hj
    rw [g.1 q (by omega) (by omega) (by omega)]
/-- the reference's clause, up to what stands behind it -/
def cl12 (P : jP) (B : Int32 → Int32 → Int32 → jM → Prop) (Q : jM → Prop) (M : jM) : Prop :=
  w_X12_look P M (fun r13 M14 => ∀ R38 : Prop, ((w_X12_fails P M14 (fun r16 M17 => Q M17)) → R38) → (r13 < 48 → R38) ∧ (¬ r13 < 48 → ((r13 ≤ 53 → (w_X12_takes P 58 (upM M14 1 5 ((M14 1 5) + 1)) (fun r21 M22 => (¬ r21 = 0 → (w_X12_condition P M22 (fun r25 M26 => ∀ R106 : Int32 → jM → Prop, (∀ (x28 : Int32) (M29 : jM), B r13 r25 x28 M29 → R106 x28 M29) → (¬ (M26 1 6) = (-1) → (R106 0 M26)) ∧ ((M26 1 6) = (-1) → (w_X12_look P M26 (fun r50 M51 => (¬ r50 = 117 → (R106 0 M51)) ∧ (r50 = 117 → (w_X12_condition P (upM M51 1 5 ((M51 1 5) + 1)) (fun r54 M55 => R106 r54 M55))))))))) ∧ (r21 = 0 → (Q M22))))) ∧ (¬ r13 ≤ 53 → R38))))
def clJ (A : aS) (k i a : Nat) : Prop :=
  (∃ p, p ≤ A.1 1 ∧ (∀ (P : jP) (c : Nat) (M : jM) (B : Int32 → Int32 → Int32 → jM → Prop) (Q : jM → Prop), c < 512 → S12 M A c i 0 → (∀ M', f12 M M' → M' 1 6 = nI p → Q M') → (∀ o x y M', M' 1 6 = nI p → Q M' → B o x y M') → cl12 P B Q M) ∧ ∀ (P : jP) (M : jM) (Q : Int32 → jM → Prop), S7 P M A i a → (∀ M', gL a k M M' → M' 3 3 = nI p → Q 0 M') → w_X7_clause P (nI k) M Q) ∨
  ∃ i' o u e cv uv, i < i' ∧ i' ≤ A.1 1 ∧ o ≤ 5 ∧ a ≤ u ∧ u ≤ e ∧ e + i ≤ a + i' ∧ (∀ (P : jP) (c : Nat) (M : jM) (B : Int32 → Int32 → Int32 → jM → Prop) (Q : jM → Prop), c < 512 → S12 M A c i 0 → (∀ M', f12 M M' → S12 M' A c i' 0 → B (nI (o + 48)) (bi (cv c = true)) (bi (uv c = true)) M') → cl12 P B Q M) ∧ ∀ (P : jP) (M : jM) (Q : Int32 → jM → Prop), S7 P M A i a → (∀ M', gL a k M M' → M' 3 3 = M 3 3 → S7 P M' A i' e → M' 19 k = nI o → M' 20 k = nI a → M' 21 k = nI u → M' 22 k = nI e → segOK (M' 18) a u cv → ((u = e ∧ ∀ c, uv c = false) ∨ segOK (M' 18) u e uv) → Q 1 M') → w_X7_clause P (nI k) M Q
theorem cl_all {A : aS} (hT : wfT A) (h160 : A.1 1 ≤ 160) (h9 : A.1 0 ≤ 9) {k i a : Nat} (hk : k < 12) (hi : i ≤ A.1 1) (hai : a ≤ i) : clJ A k i a := by
  obtain ⟨k1, k2, k3⟩ := skN_le hi
  have hc := ch_lt hT (skN A i)
  have l48 : hR A (skN A i) < 48 ↔ chN A (skN A i) < 48 := hR_lt (v := 48) hT (by omega) (by omega)
  have l53 : hR A (skN A i) ≤ 53 ↔ chN A (skN A i) ≤ 53 := hR_le (v := 53) hT (by omega)
  have c48 : nI (chN A (skN A i)) < 48 ↔ chN A (skN A i) < 48 := nI_ltI (b := 48) (by omega) (by omega)
  have c53 : nI (chN A (skN A i)) ≤ 53 ↔ chN A (skN A i) ≤ 53 := nI_leI (b := 53) (by omega) (by omega)
  have vk : vp_in (nI k) 12 := vin hk (by omega)
  have ek : (nI k).toNatClampNeg = k := nI_clamp (by omega)
  by_cases hdig : 48 ≤ chN A (skN A i) ∧ chN A (skN A i) ≤ 53
  · have hlen : skN A i < A.1 1 := ch_len rfl (by omega)
    obtain ⟨o, ho, eo⟩ : ∃ o, o ≤ 5 ∧ chN A (skN A i) = o + 48 := ⟨chN A (skN A i) - 48, by omega, by omega⟩
    have hRo : hR A (skN A i) = nI (o + 48) := by
      unfold hR
      rw [if_pos hlen, eo]
    have e48 : nI (o + 48) - 48 = nI o := by
      rw [show (48 : Int32) = nI 48 from rfl, pk_sub (by omega)]
      congr 1
    -- up to the colon
    have ref : ∀ (P : jP) (c : Nat) (M : jM) (B : Int32 → Int32 → Int32 → jM → Prop) (Q : jM → Prop), c < 512 → S12 M A c i 0 → (∀ M', f12 M M' → S12 M' A c (skN A i + 1) 0 → w_X12_takes P 58 M' (fun r21 M22 => (¬ r21 = 0 → (w_X12_condition P M22 (fun r25 M26 => ∀ R106 : Int32 → jM → Prop, (∀ (x28 : Int32) (M29 : jM), B (nI (o + 48)) r25 x28 M29 → R106 x28 M29) → (¬ (M26 1 6) = (-1) → (R106 0 M26)) ∧ ((M26 1 6) = (-1) → (w_X12_look P M26 (fun r50 M51 => (¬ r50 = 117 → (R106 0 M51)) ∧ (r50 = 117 → (w_X12_condition P (upM M51 1 5 ((M51 1 5) + 1)) (fun r54 M55 => R106 r54 M55))))))))) ∧ (r21 = 0 → (Q M22)))) → cl12 P B Q M := by
      intro P c M B Q hc hs hk'
      unfold cl12
      refine hs.look hT hi (fun M' g s => ?_)
      intro R38 h38
      refine br_f (fun z => by have := l48.mp z; omega) (br_t (l53.mpr hdig.2) ?_)
      obtain ⟨g2, s2⟩ := s.inc
      rw [hRo]
      exact hk' _ (g.trans g2) s2
    have cls : ∀ (P : jP) (M : jM) (Q : Int32 → jM → Prop), S7 P M A i a → (∀ M', gL a k M M' → M' 3 3 = M 3 3 → S7 P M' A (skN A i + 1) a → M' 19 k = nI o → M' 20 k = nI a → w_X10_needs P 58 M' (fun r13 M14 => (r13 = 0 → (Q 0 M14)) ∧ (¬ r13 = 0 → (w_X7_condition P 0 M14 (fun r17 M18 => (¬ r17 = 0 → (vp_in (nI k) (12) ∧ w_X10_passes P 117 (upM M18 21 k (M18 4 3)) (fun r22 M23 => ∀ R125 : Int32 → jM → Prop, (∀ (x25 : Int32) (M26 : jM), (vp_in (nI k) (12) ∧ jb x25 ∧ Q x25 (upM M26 22 k (M26 4 3))) → R125 x25 M26) → (r22 = 0 → (R125 1 M23)) ∧ (¬ r22 = 0 → (w_X7_condition P 0 M23 (fun r30 M31 => (r30 = 0 → (R125 0 M31)) ∧ (¬ r30 = 0 → (R125 1 M31)))))))) ∧ (r17 = 0 → (Q 0 M18))))))) → w_X7_clause P (nI k) M Q := by
      intro P M Q hs hk'
      unfold w_X7_clause
      refine hs.next hT hi (fun M' g e s => ?_)
      intro R20 h20
      refine br_f (fun z => by have := c48.mp z; omega) (br_t (c53.mpr hdig.2) ⟨vk, ?_⟩)
      rintro M11 rfl
      obtain ⟨g2, e2, s2⟩ := s.inc
      have g3 : gL a k M (upM (upM M' 3 2 (M' 3 2 + 1)) 19 k (nI (chN A (skN A i)) - 48)) := (gL.of (g.trans g2 (Nat.le_refl a)) k).trans (gL.put (by omega) (by omega) (Nat.le_refl k) _) (Nat.le_refl a) (Nat.le_refl k)
      rw [ek]
      refine ⟨vk, hk' _ (g3.trans (gL.put (q := 20) (by omega) (by omega) (Nat.le_refl k) _) (Nat.le_refl a) (Nat.le_refl k)) ?_ ⟨hs.1.gL (g3.trans (gL.put (q := 20) (by omega) (by omega) (Nat.le_refl k) _) (Nat.le_refl a) (Nat.le_refl k)), ?_, ?_⟩ ?_ ?_⟩
      · rw [up_of _ _ _ _ (by omega), up_of _ _ _ _ (by omega)]; exact e2.trans e
      · rw [up_of _ _ _ _ (by omega), up_of _ _ _ _ (by omega)]; exact s2.2.1
      · rw [up_of _ _ _ _ (by omega), up_of _ _ _ _ (by omega)]; exact s2.2.2
      · rw [up_of _ _ _ _ (by omega), up_at, if_pos rfl, eo, e48]
      · rw [up_at, if_pos rfl, up_of _ _ _ _ (by omega)]; exact s2.2.2
    obtain ⟨m1, m2, m3⟩ := skN_le (A := A) (i := skN A i + 1) (by omega)
    by_cases h58 : chN A (skN A (skN A i + 1)) = 58
    · have hl2 := ch_len h58 (by omega)
      rcases condJ hT h160 h9 (i := skN A (skN A i + 1) + 1) (by omega) with ⟨p, p1, p2, p3⟩ | ⟨i1, L1, cv, e1, e2, e3, e4, e5, e6⟩
      · refine Or.inl ⟨p, p1, fun P c M B Q hc hs hq hB => ref P c M B Q hc hs (fun M' g s => s.takes (v := 58) hT (by omega) (by omega) (by omega) (fun _ M2 g2 s2 => bn_f (by decide) (p2 P c M2 _ hc s2 (fun v M3 hv g3 e => ?_))) (fun z => absurd h58 z)), fun P M Q hs hq => cls P M Q hs (fun M' g e s a1 a2 => s.needs (v := 58) hT (by omega) (by omega) (fun _ M2 g2 e2 s2 => br_f (by decide) (p3 P M2 a _ s2 (by omega) (fun M3 g3 e3 => bn_t rfl (hq M3 ((g.trans (gL.of g2 k) (Nat.le_refl a) (Nat.le_refl k)).trans (gL.of g3 k) (Nat.le_refl a) (Nat.le_refl k)) e3)))) (fun z => absurd h58 z))⟩
        intro R106 h106
        exact bn_f (fun z => absurd (e.symm.trans z) (nI_ne1 (by omega))) (h106 _ _ (hB _ _ _ M3 e (hq M3 ((g.trans g2).trans g3) e)))
      · obtain ⟨n1, n2, n3⟩ := skN_le e2
        -- both have read the condition
        have ref2 : ∀ (P : jP) (c : Nat) (M : jM) (B : Int32 → Int32 → Int32 → jM → Prop) (Q : jM → Prop), c < 512 → S12 M A c i 0 → (∀ M', f12 M M' → S12 M' A c (skN A i1) 0 → ∀ R106 : Int32 → jM → Prop, (∀ (x28 : Int32) (M29 : jM), B (nI (o + 48)) (bi (cv c = true)) x28 M29 → R106 x28 M29) → (¬ hR A (skN A i1) = 117 → (R106 0 M')) ∧ (hR A (skN A i1) = 117 → (w_X12_condition P (upM M' 1 5 ((M' 1 5) + 1)) (fun r54 M55 => R106 r54 M55)))) → cl12 P B Q M := by
          intro P c M B Q hc hs hk'
          refine ref P c M B Q hc hs (fun M' g s => s.takes (v := 58) hT (by omega) (by omega) (by omega) (fun _ M2 g2 s2 => bn_f (by decide) (e5 P c M2 _ hc s2 (fun M3 g3 s3 => ?_))) (fun z => absurd h58 z))
          intro R106 h106
          exact bn_t s3.2.2.1 (s3.look hT e2 (fun M4 g4 s4 => hk' M4 (((g.trans g2).trans g3).trans g4) s4 R106 h106))
        have cls2 : ∀ (P : jP) (M : jM) (Q : Int32 → jM → Prop), S7 P M A i a → (∀ M', gL a k M M' → M' 3 3 = M 3 3 → S7 P M' A i1 (a + L1.length) → M' 19 k = nI o → M' 20 k = nI a → M' 21 k = nI (a + L1.length) → segOK (M' 18) a (a + L1.length) cv → w_X10_passes P 117 M' (fun r22 M23 => ∀ R125 : Int32 → jM → Prop, (∀ (x25 : Int32) (M26 : jM), (vp_in (nI k) (12) ∧ jb x25 ∧ Q x25 (upM M26 22 k (M26 4 3))) → R125 x25 M26) → (r22 = 0 → (R125 1 M23)) ∧ (¬ r22 = 0 → (w_X7_condition P 0 M23 (fun r30 M31 => (r30 = 0 → (R125 0 M31)) ∧ (¬ r30 = 0 → (R125 1 M31))))))) → w_X7_clause P (nI k) M Q := by
          intro P M Q hs hk'
          refine cls P M Q hs (fun M' g e s a1 a2 => s.needs (v := 58) hT (by omega) (by omega) (fun _ M2 g2 e2 s2 => br_f (by decide) (e6 P M2 a _ s2 (by omega) (fun M3 g3 b1 b2 b3 b4 => bn_f (by decide) ⟨vk, ?_⟩))) (fun z => absurd h58 z))
          rw [b3]
          have gg : gL a k M (upM M3 21 k (nI (a + L1.length))) := ((g.trans (gL.of g2 k) (Nat.le_refl a) (Nat.le_refl k)).trans (gL.of g3 k) (Nat.le_refl a) (Nat.le_refl k)).trans (gL.put (by omega) (by omega) (Nat.le_refl k) _) (Nat.le_refl a) (Nat.le_refl k)
          have hkk := hk' (upM M3 21 k (nI (a + L1.length))) gg (by rw [up_of _ _ _ _ (by omega), b1, e2, e]) ⟨hs.1.gL gg, by rw [up_of _ _ _ _ (by omega)]; exact b2, by rw [up_of _ _ _ _ (by omega)]; exact b3⟩ (by rw [up_of _ _ _ _ (by omega), g3.1 19 (by omega) (by omega) (by omega), g2.1 19 (by omega) (by omega) (by omega)]; exact a1) (by rw [up_of _ _ _ _ (by omega), g3.1 20 (by omega) (by omega) (by omega), g2.1 20 (by omega) (by omega) (by omega)]; exact a2) (by rw [up_at, if_pos rfl]) ⟨L1, rfl, fun j hj => by rw [up_of _ _ _ _ (by omega)]; exact b4 j hj, e4⟩
          exact hkk
        by_cases h117 : chN A (skN A i1) = 117
        · have hl3 := ch_len h117 (by omega)
          have hR117 : hR A (skN A i1) = 117 := (hR_eq (v := 117) hT (by omega) (by omega)).mpr h117
          rcases condJ hT h160 h9 (i := skN A i1 + 1) (by omega) with ⟨p, p1, p2, p3⟩ | ⟨i2, L2, uv, t1, t2, t3, t4, t5, t6⟩
          · refine Or.inl ⟨p, p1, fun P c M B Q hc hs hq hB => ref2 P c M B Q hc hs (fun M' g s => ?_), fun P M Q hs hq => cls2 P M Q hs (fun M' g e s a1 a2 a3 sg => s.passes (v := 117) hT e2 (by omega) (fun _ M2 g2 e2 s2 => ?_) (fun z => absurd h117 z))⟩
            · intro R106 h106
              exact bn_t hR117 (p2 P c _ _ hc s.inc.2 (fun v M3 hv g3 e => h106 _ _ (hB _ _ _ M3 e (hq M3 ((g.trans s.inc.1).trans g3) e))))
            · intro R125 h125
              refine br_f (by decide) (p3 P M2 (a + L1.length) _ s2 (by omega) (fun M3 g3 e3 => br_t rfl (h125 _ _ ⟨vk, jb_0, ?_⟩)))
              exact hq _ (((g.trans (gL.of g2 k) (by omega) (Nat.le_refl k)).trans (gL.of g3 k) (by omega) (Nat.le_refl k)).trans (gL.put (by omega) (by omega) (Nat.le_refl k) _) (Nat.le_refl a) (Nat.le_refl k)) (by rw [up_of _ _ _ _ (by omega)]; exact e3)
          · refine Or.inr ⟨i2, o, a + L1.length, a + L1.length + L2.length, cv, uv, by omega, t2, ho, by omega, by omega, by omega, fun P c M B Q hc hs hq => ref2 P c M B Q hc hs (fun M' g s => ?_), fun P M Q hs hq => cls2 P M Q hs (fun M' g e s a1 a2 a3 sg => s.passes (v := 117) hT e2 (by omega) (fun _ M2 g2 e2 s2 => ?_) (fun z => absurd h117 z))⟩
            · intro R106 h106
              exact bn_t hR117 (t5 P c _ _ hc s.inc.2 (fun M3 g3 s3 => h106 _ _ (hq M3 ((g.trans s.inc.1).trans g3) s3)))
            · intro R125 h125
              refine br_f (by decide) (t6 P M2 (a + L1.length) _ s2 (by omega) (fun M3 g3 b1 b2 b3 b4 => br_f (by decide) (h125 _ _ ⟨vk, jb_1, ?_⟩)))
              rw [b3]
              have gg : gL a k M (upM M3 22 k (nI (a + L1.length + L2.length))) := ((g.trans (gL.of g2 k) (by omega) (Nat.le_refl k)).trans (gL.of g3 k) (by omega) (Nat.le_refl k)).trans (gL.put (by omega) (by omega) (Nat.le_refl k) _) (Nat.le_refl a) (Nat.le_refl k)
              have k19 : ∀ q, 19 ≤ q → q ≤ 21 → upM M3 22 k (nI (a + L1.length + L2.length)) q k = M' q k := fun q h1 h2 => by rw [up_of _ _ _ _ (by omega), g3.1 q (by omega) (by omega) (by omega), g2.1 q (by omega) (by omega) (by omega)]
              refine hq _ gg (by rw [up_of _ _ _ _ (by omega), b1, e2, e]) ⟨hs.1.gL gg, by rw [up_of _ _ _ _ (by omega)]; exact b2, by rw [up_of _ _ _ _ (by omega)]; exact b3⟩ ((k19 19 (by omega) (by omega)).trans a1) ((k19 20 (by omega) (by omega)).trans a2) ((k19 21 (by omega) (by omega)).trans a3) (by rw [up_at, if_pos rfl]) (sg.agree (fun j hj => ?_)) (Or.inr ⟨L2, rfl, fun j hj => by rw [up_of _ _ _ _ (by omega)]; exact b4 j hj, t4⟩)
              rw [up_of _ _ _ _ (by omega), g3.2.2.2 j (by omega), g2.2.2.2 j (by omega)]
        · refine Or.inr ⟨skN A i1, o, a + L1.length, a + L1.length, cv, fun _ => false, by omega, n2, ho, by omega, by omega, by omega, fun P c M B Q hc hs hq => ref2 P c M B Q hc hs (fun M' g s => ?_), fun P M Q hs hq => cls2 P M Q hs (fun M' g e s a1 a2 a3 sg => s.passes (v := 117) hT e2 (by omega) (fun z => absurd z h117) (fun _ M2 g2 e2 s2 => ?_))⟩
          · intro R106 h106
            exact bn_f (fun z => h117 ((hR_eq (v := 117) hT (by omega) (by omega)).mp z)) (h106 _ _ (hq M' g s))
          · intro R125 h125
            refine br_t rfl (h125 _ _ ⟨vk, jb_1, ?_⟩)
            rw [s2.2.2]
            have gg : gL a k M (upM M2 22 k (nI (a + L1.length))) := (g.trans (gL.of g2 k) (by omega) (Nat.le_refl k)).trans (gL.put (by omega) (by omega) (Nat.le_refl k) _) (Nat.le_refl a) (Nat.le_refl k)
            have k19 : ∀ q, 19 ≤ q → q ≤ 21 → upM M2 22 k (nI (a + L1.length)) q k = M' q k := fun q h1 h2 => by rw [up_of _ _ _ _ (by omega), g2.1 q (by omega) (by omega) (by omega)]
            refine hq _ gg (by rw [up_of _ _ _ _ (by omega), e2, e]) ⟨hs.1.gL gg, by rw [up_of _ _ _ _ (by omega)]; exact s2.2.1, by rw [up_of _ _ _ _ (by omega)]; exact s2.2.2⟩ ((k19 19 (by omega) (by omega)).trans a1) ((k19 20 (by omega) (by omega)).trans a2) ((k19 21 (by omega) (by omega)).trans a3) (by rw [up_at, if_pos rfl]) (sg.agree (fun j hj => ?_)) (Or.inl ⟨rfl, fun _ => rfl⟩)
            rw [up_of _ _ _ _ (by omega), g2.2.2.2 j (by omega)]
    · refine Or.inl ⟨skN A (skN A i + 1), m2, fun P c M B Q hc hs hq hB => ref P c M B Q hc hs (fun M' g s => s.takes (v := 58) hT (by omega) (by omega) (by omega) (fun z => absurd z h58) (fun _ M2 g2 e => bn_t rfl (hq M2 (g.trans g2) e))), fun P M Q hs hq => cls P M Q hs (fun M' g e s a1 a2 => s.needs (v := 58) hT (by omega) (by omega) (fun z => absurd z h58) (fun _ M2 g2 e2 => br_t rfl (hq M2 (g.trans (gL.of g2 k) (Nat.le_refl a) (Nat.le_refl k)) e2)))⟩
  · refine Or.inl ⟨skN A i, k2, fun P c M B Q hc hs hq hB => ?_, fun P M Q hs hq => ?_⟩
    · unfold cl12
      refine hs.look hT hi (fun M' g s => ?_)
      intro R38 h38
      have fin : R38 := h38 (s.fails (fun M2 g2 e => hq M2 (g.trans g2) e))
      exact br_c (fun _ => fin) (fun z => bn2 (fun y => by rw [l53] at y; rw [l48] at z; omega) fin)
    · unfold w_X7_clause
      refine hs.next hT hi (fun M' g e s => ?_)
      intro R20 h20
      have fin : R20 := h20 (s.miss (fun M2 g2 e2 => ⟨jb_0, hq M2 (gL.of (g.trans g2 (Nat.le_refl a)) k) e2⟩))
      exact br_c (fun _ => fin) (fun z => bn2 (fun y => by rw [c53] at y; rw [c48] at z; omega) fin)
