/-! reading: a form, both sides -/
def bf12 (P : jP) (a1 : Int32) (R19 : Int32 → jM → Prop) (Q : jM → Prop) (M4 : jM) : Prop :=
  vp_in a1 (7) ∧ vp_in a1 (7) ∧ ∀ M48 : jM, M48 = upM M4 7 a1.toNatClampNeg ((M4 7 a1.toNatClampNeg) + 1) → w_X12_look P M48 (fun r49 M50 => ∀ R163 : Int32 → Prop, (∀ (x52 : Int32), (∀ R185 : Prop, (((x52 = 0 → (R19 x52 M50)) ∧ (¬ x52 = 0 → (R19 x52 (upM M50 1 5 ((M50 1 5) + 1))))) → R185) → (x52 = 0 → (R185)) ∧ (¬ x52 = 0 → (vp_in a1 (7) ∧ (¬ (M50 7 a1.toNatClampNeg) = 12 → (R185)) ∧ ((M50 7 a1.toNatClampNeg) = 12 → (w_X12_fails P M50 (fun r57 M58 => Q M58)))))) → R163 x52) → (¬ r49 = 59 → (R163 0)) ∧ (r49 = 59 → (R163 1)))
def ef12 (P : jP) (a1 : Int32) (Q : jM → Prop) (M5 : jM) : Prop := w_X12_look P M5 (fun r7 M8 => ∀ R223 : Prop, ((w_X12_fails P M8 (fun r10 M11 => Q M11)) → R223) → (¬ r7 = (-1) → (R223)) ∧ (r7 = (-1) → (vp_in a1 (7) ∧ ((M8 1 16) < (M8 7 a1.toNatClampNeg) → (Q M8)) ∧ (¬ (M8 1 16) < (M8 7 a1.toNatClampNeg) → (R223)))))
def rf12 (P : jP) (a1 x : Int32) (M : jM) (Q : jM → Prop) : Prop := ∀ R19 : Int32 → jM → Prop, (∀ (x4 : Int32) (M5 : jM), ((x4 = 0 → ef12 P a1 Q M5) ∧ (¬ x4 = 0 → nd12 P a1 (bf12 P a1 R19 Q) Q M5)) → R19 x4 M5) → R19 x M
theorem readForm_eq {P : jP} {a1 : Int32} {M : jM} {Q : jM → Prop} (h : w_X12_begin P 0 M (fun M1 => vp_in a1 (7) ∧ rf12 P a1 1 (upM (upM M1 1 16 0) 7 a1.toNatClampNeg 0) Q)) : w_X12_readForm P a1 M Q := h
def tOkN (k n v : Nat) : Prop := (k < v ∧ v < n) ∨ (99 ≤ v ∧ v ≤ 105)
def fmT (A : aS) (k i h : Nat) : Prop :=
  (∃ p, p ≤ A.1 1 ∧ (∀ (f : Nat), f ≤ 6 → ∀ (P : jP) (M : jM) (Q : jM → Prop), S12 M A 0 i 0 → M 1 16 = nI h → M 7 f = nI k → (∀ M', v12 f k 12 M M' → M' 1 6 = nI p → Q M') → rf12 P (nI f) 1 M Q) ∧ ∀ (P : jP) (M : jM) (kk : Nat) (Q : Int32 → jM → Prop), S7 P M A i kk → M 4 10 = nI h → M 3 3 = -1 → (∀ M', v7 A k M M' → Q (nI p) M') → rl7 P 2 1 (nI k) M Q) ∨
  ∃ (n : Nat) (fc yt nt : Nat → Nat), k < n ∧ n ≤ 12 ∧ h < n ∧ (∀ j, k ≤ j → j < n → fc j < A.1 0 ∧ tOkN j n (yt j) ∧ tOkN j n (nt j)) ∧ (∀ (f : Nat), f ≤ 6 → ∀ (P : jP) (M : jM) (Q : jM → Prop), S12 M A 0 i 0 → M 1 16 = nI h → M 7 f = nI k → (∀ M', v12 f k n M M' → M' 1 6 = -1 → M' 7 f = nI n → (∀ j, k ≤ j → j < n → M' 4 (12 * f + j) = nI (fc j) ∧ M' 5 (12 * f + j) = nI (yt j) ∧ M' 6 (12 * f + j) = nI (nt j)) → Q M') → rf12 P (nI f) 1 M Q) ∧ ∀ (P : jP) (M : jM) (kk : Nat) (Q : Int32 → jM → Prop), S7 P M A i kk → M 4 10 = nI h → M 3 3 = -1 → (∀ M', v7 A k M M' → M' 3 3 = -1 → M' 4 4 = nI n → (∀ j, k ≤ j → j < n → M' (spF A + 1) j = nI (fc j) ∧ M' (spF A + 2) j = tconv (nI (yt j)) ∧ M' (spF A + 3) j = tconv (nI (nt j))) → Q (-1) M') → rl7 P 2 1 (nI k) M Q
theorem ch_end {A : aS} (hT : wfT A) {q : Nat} (hq : q ≤ A.1 1) (h : chN A q = 0) : q = A.1 1 := by
  apply Classical.byContradiction
  intro z
  have := ch_in hT (show q < A.1 1 by omega)
  omega
theorem tOk_of {j n v : Nat} (h : tOwn j v) (hn : v < 12 → v < n) : tOkN j n v := by
  rcases h with h | h
  · exact Or.inl ⟨h.1, hn h.2⟩
  · exact Or.inr h
theorem fm_all {A : aS} (hT : wfT A) (h160 : A.1 1 ≤ 160) (h9 : A.1 0 ≤ 9) (h4 : A.1 4 ≤ 6) : ∀ r i k h, i + r = A.1 1 → k < 12 → h < 12 → fmT A k i h := by
  intro r
  have vf : ∀ f, f ≤ 6 → vp_in (nI f) 7 := fun f hf => vin (by omega) (by omega)
  have ef : ∀ f, f ≤ 6 → (nI f).toNatClampNeg = f := fun f hf => nI_clamp (by omega)
  have hsp := spF_eq A
  induction r using Nat.strongRecOn with
  | ind r ih =>
    intro i k h hr hk hh12
    have hi : i ≤ A.1 1 := by omega
    have n12 : ¬ (12 : Int32) ≤ nI k := nI_ge (b := 12) hk (by omega)
    have l12 : ∀ (f : Nat), f ≤ 6 → ∀ (P : jP) (M : jM) (Q : jM → Prop), (∀ R19 : Int32 → jM → Prop, (∀ x M', ((x = 0 → ef12 P (nI f) Q M') ∧ (¬ x = 0 → nd12 P (nI f) (bf12 P (nI f) R19 Q) Q M')) → R19 x M') → nd12 P (nI f) (bf12 P (nI f) R19 Q) Q M) → rf12 P (nI f) 1 M Q := by
      intro f hf P M Q h R17 h17
      exact h17 _ _ (bn2 (by decide) (h R17 h17))
    have l7 : ∀ (P : jP) (M : jM) (Q : Int32 → jM → Prop), (∀ (R134 : Int32 → jM → Prop) (R121 : jM → Prop), (∀ x M', rl7 P 2 x (nI (k + 1)) M' Q → R134 x M') → (∀ M', w_X7_goesOn P (nI k) M' (fun r19 M20 => (r19 = 0 → (R134 0 M20)) ∧ (¬ r19 = 0 → (R134 1 M20))) → R121 M') → w_X7_node P (nI k) M (fun r28 M29 => (r28 = 0 → (R134 0 M29)) ∧ (¬ r28 = 0 → (R121 M29)))) → rl7 P 2 1 (nI k) M Q := by
      intro P M Q h R88 h88
      refine h88 _ _ _ ?_
      intro R141 h141
      refine br_f n12 (bn2 (by decide) ?_)
      intro R134 h134 R121 h121
      refine bn_f (by decide) (h R134 R121 (fun x M' hx => h134 x M' ?_) h121)
      rw [nI_1]
      exact hx R88 h88
    have stop7 : ∀ (P : jP) (M6 : jM) (Q : Int32 → jM → Prop), ((∀ R183 : jM → Prop, (∀ (M7 : jM), (Q (M7 3 3) M7) → R183 M7) → (¬ (M6 3 3) = (-1) → (R183 M6)) ∧ ((M6 3 3) = (-1) → ((¬ (2 : Int32) = 2 → (R183 M6)) ∧ ((2 : Int32) = 2 → (((M6 4 10) < (M6 4 4) → (R183 M6)) ∧ (¬ (M6 4 10) < (M6 4 4) → (w_X10_miss P (M6 3 1) M6 (fun r11 M12 => R183 M12)))))))) → rl7 P 2 0 (nI (k + 1)) M6 Q) := by
      intro P M Q hq R88 h88
      refine h88 _ _ _ ?_
      intro R141 h141
      have fin : R141 := h141 hq
      exact br_c (fun _ => fin) (fun _ => bn3 rfl fin)
    have stopF : ∀ (P : jP) (M6 : jM) (Q : Int32 → jM → Prop) (p : Nat), p < 2 ^ 31 → M6 3 3 = nI p → Q (nI p) M6 → rl7 P 2 0 (nI (k + 1)) M6 Q := by
      intro P M6 Q p hp e hq
      refine stop7 P M6 Q (fun R183 h183 => bn_f (fun z => absurd (e.symm.trans z) (nI_ne1 hp)) (h183 _ ?_))
      rw [e]
      exact hq
    rcases nd_all hT h160 h9 h4 hk hi with ⟨p, p1, p2, p3⟩ | ⟨i1, x1, y1, z1, d1, d2, d3, d4, d5, d7, d8⟩
    · exact Or.inl ⟨p, p1, fun f hf P M Q hs hh h7 hq => l12 f hf P M Q (fun R17 _ => p2 f hf P M _ Q h hs hh hh12 h7 (fun M' g e => hq M' (g.mono (by omega)) e)), fun P M kk Q hs hh h33 hq => l7 P M Q (fun R134 R121 h134 h121 => p3 P M kk h _ hs hh hh12 (fun M' g e => bn3 rfl (h134 0 M' (stopF P M' Q p (by omega) e (hq M' g)))))⟩
    · obtain ⟨m1, m2, m3⟩ := skN_le d2
      have hc1 := ch_lt hT (skN A i1)
      -- what stands behind a node
      have ref : ∀ (f : Nat), f ≤ 6 → ∀ (P : jP) (M : jM) (Q : jM → Prop), S12 M A 0 i 0 → M 1 16 = nI h → M 7 f = nI k → (∀ M', v12 f k (k + 1) M M' → S12 M' A 0 (skN A i1) 0 → M' 1 16 = nI (hiT (hiT h y1) z1) → M' 7 f = nI (k + 1) → M' 4 (12 * f + k) = nI x1 → M' 5 (12 * f + k) = nI y1 → M' 6 (12 * f + k) = nI z1 → ∀ R19 : Int32 → jM → Prop, (∀ x M', ((x = 0 → ef12 P (nI f) Q M') ∧ (¬ x = 0 → nd12 P (nI f) (bf12 P (nI f) R19 Q) Q M')) → R19 x M') → (chN A (skN A i1) = 59 → (k + 1 = 12 → w_X12_fails P M' (fun r43 M44 => Q M44)) ∧ (¬ k + 1 = 12 → R19 1 (upM M' 1 5 ((M' 1 5) + 1)))) ∧ (¬ chN A (skN A i1) = 59 → R19 0 M')) → rf12 P (nI f) 1 M Q := by
        intro f hf P M Q hs hh h7 hK
        refine l12 f hf P M Q (fun R17 h17 => d7 f hf P M _ Q h hs hh hh12 h7 (fun M4 g s a16 a7 a4 a5 a6 => ?_))
        unfold bf12
        rw [ef f hf, a7, nI_1]
        refine ⟨vf f hf, vf f hf, ?_⟩
        rintro M48 rfl
        have g2 : v12 f k (k + 1) M4 (upM M4 7 f (nI (k + 1))) := v12.up7 _
        have s2 : S12 (upM M4 7 f (nI (k + 1))) A 0 i1 0 := s.v12 g2 (fun j _ _ => up_of _ _ _ _ (by omega))
        refine s2.look hT d2 (fun M50 g3 s3 => ?_)
        intro R163 h163
        have f7 : M50 7 f = nI (k + 1) := by rw [g3.1 7 (by omega), up_at, if_pos rfl]
        have f16 : M50 1 16 = nI (hiT (hiT h y1) z1) := by rw [g3.2 16 (by omega) (by omega) (by omega), up_of _ _ _ _ (by omega)]; exact a16
        have fr : ∀ q, 4 ≤ q → q ≤ 6 → M50 q = M4 q := fun q a b => by rw [g3.1 q (by omega), upM_ne _ _ _ (by omega)]
        obtain ⟨w1, w2⟩ := hK M50 ((g.trans g2 (Nat.le_refl k)).trans (v12.of (u12.of g3)) (Nat.le_refl k)) s3 f16 f7 (by rw [fr 4 (by omega) (by omega)]; exact a4) (by rw [fr 5 (by omega) (by omega)]; exact a5) (by rw [fr 6 (by omega) (by omega)]; exact a6) R17 h17
        have i59 : hR A (skN A i1) = 59 ↔ chN A (skN A i1) = 59 := hR_eq (v := 59) hT (by omega) (by omega)
        have i12 : M50 7 f = 12 ↔ k + 1 = 12 := by rw [f7]; exact nI_eq (b := 12) (by omega) (by omega)
        refine bn_c (fun z => h163 0 ?_) (fun z => h163 1 ?_)
        · intro R201 h201
          exact bn3 rfl (h201 (bn3 rfl (w2 (fun y => z (i59.mpr y)))))
        · intro R201 h201
          obtain ⟨v1, v2⟩ := w1 (i59.mp z)
          exact bn2 (by decide) ⟨vf f hf, bn_c (fun y => h201 (bn2 (by decide) (v2 (fun t => y (i12.mpr t))))) (fun y => v1 (i12.mp y))⟩
      have cls : ∀ (P : jP) (M : jM) (kk : Nat) (Q : Int32 → jM → Prop), S7 P M A i kk → M 4 10 = nI h → (∀ M' (R134 : Int32 → jM → Prop), (∀ x M', rl7 P 2 x (nI (k + 1)) M' Q → R134 x M') → v7 A k M M' → M' 3 3 = M 3 3 → S7 P M' A (skN A i1) kk → M' 4 10 = nI (hiT (hiT h y1) z1) → M' 4 4 = nI (k + 1) → M' (spF A + 1) k = nI x1 → M' (spF A + 2) k = tconv (nI y1) → M' (spF A + 3) k = tconv (nI z1) → (chN A (skN A i1) = 0 → R134 0 M') ∧ (¬ chN A (skN A i1) = 0 → (k + 1 = 12 → w_X10_miss P (M' 3 2) M' (fun r10 M11 => jb r10 ∧ ((r10 = 0 → (R134 0 M11)) ∧ (¬ r10 = 0 → (R134 1 M11))))) ∧ (¬ k + 1 = 12 → w_X10_needs P 59 M' (fun r10 M11 => jb r10 ∧ ((r10 = 0 → (R134 0 M11)) ∧ (¬ r10 = 0 → (R134 1 M11))))))) → rl7 P 2 1 (nI k) M Q := by
        intro P M kk Q hs hh hK
        refine l7 P M Q (fun R134 R121 h134 h121 => d8 P M kk h _ hs hh hh12 (fun M' g e s a10 a1 a2 a3 => bn2 (by decide) (h121 M' ?_)))
        unfold w_X7_goesOn
        have g2 : v7 A k M' (upM M' 4 4 (nI k + 1)) := v7.put4 _
        have s2 : S7 P (upM M' 4 4 (nI k + 1)) A i1 kk := ⟨s.1.v7 g2, by rw [up_of _ _ _ _ (by omega)]; exact s.2.1, by rw [up_at, if_neg (by omega)]; exact s.2.2⟩
        refine s2.next' hT d2 (fun M2 g3 e3 e10 s3 => ?_)
        have q4 : M2 4 4 = nI (k + 1) := by rw [g3.2.2 4 (by omega), up_at, if_pos rfl, nI_1]
        have fr : ∀ r, 1 ≤ r → r ≤ 3 → M2 (spF A + r) = M' (spF A + r) := fun r a b => by rw [g3.1 _ (by omega) (by omega), upM_ne _ _ _ (by omega)]
        obtain ⟨w1, w2⟩ := hK M2 R134 h134 ((g.trans g2 (Nat.le_refl k)).trans (v7.of g3) (Nat.le_refl k)) (by rw [e3, up_of _ _ _ _ (by omega)]; exact e) s3 (by rw [e10, up_at, if_neg (by omega)]; exact a10) q4 (by rw [fr 1 (by omega) (by omega)]; exact a1) (by rw [fr 2 (by omega) (by omega)]; exact a2) (by rw [fr 3 (by omega) (by omega)]; exact a3)
        have i12 : M2 4 4 = 12 ↔ k + 1 = 12 := by rw [q4]; exact nI_eq (b := 12) (by omega) (by omega)
        have i0 : nI (chN A (skN A i1)) = 0 ↔ chN A (skN A i1) = 0 := nI_eq (b := 0) (by omega) (by omega)
        refine bn_c (fun z => ?_) (fun z => bn3 rfl (w1 (i0.mp z)))
        obtain ⟨v1, v2⟩ := w2 (fun y => z (i0.mpr y))
        exact bn_c (fun y => v2 (fun t => y (i12.mpr t))) (fun y => v1 (i12.mp y))
      have hH : hiT (hiT h y1) z1 < 12 := hiT_lt (hiT_lt hh12)
      have gH : h ≤ hiT (hiT h y1) z1 := Nat.le_trans (hiT_ge h y1) (hiT_ge _ z1)
      by_cases h59 : chN A (skN A i1) = 59
      · have hlen := ch_len h59 (by omega)
        by_cases h12 : k + 1 = 12
        · exact Or.inl ⟨skN A i1, m2, fun f hf P M Q hs hh h7 hq => ref f hf P M Q hs hh h7 (fun M' g s a16 a7 a4 a5 a6 R17 h17 => ⟨fun _ => ⟨fun _ => s.fails (fun M2 g2 e => hq M2 ((g.mono (by omega)).trans (v12.of (u12.of g2)) (Nat.le_refl k)) e), fun z => absurd h12 z⟩, fun z => absurd h59 z⟩), fun P M kk Q hs hh h33 hq => cls P M kk Q hs hh (fun M' R134 h134 g e s b10 b4 b1 b2 b3 => ⟨fun z => by omega, fun _ => ⟨fun _ => s.miss' (fun M2 g2 e2 => ⟨jb_0, bn3 rfl (h134 0 M2 (stopF P M2 Q _ (by omega) e2 (hq M2 (g.trans (v7.of g2) (Nat.le_refl k)))))⟩), fun z => absurd h12 z⟩⟩)⟩
        · rcases ih (A.1 1 - (skN A i1 + 1)) (by omega) (skN A i1 + 1) (k + 1) (hiT (hiT h y1) z1) (by omega) (by omega) hH with ⟨p, p1, p2, p3⟩ | ⟨n, fc, yt, nt, t1, t2, t0, t3, t4, t5⟩
          · refine Or.inl ⟨p, p1, fun f hf P M Q hs hh h7 hq => ref f hf P M Q hs hh h7 (fun M' g s a16 a7 a4 a5 a6 R17 h17 => ⟨fun _ => ⟨fun z => absurd z h12, fun _ => ?_⟩, fun z => absurd h59 z⟩), fun P M kk Q hs hh h33 hq => cls P M kk Q hs hh (fun M' R134 h134 g e s b10 b4 b1 b2 b3 => ⟨fun z => by omega, fun _ => ⟨fun z => absurd z h12, fun _ => s.needs' (v := 59) hT m2 (by omega) (fun _ M2 g2 e2 e10 s2 => ⟨jb_1, bn2 (by decide) (h134 1 M2 ?_)⟩) (fun z => absurd (by rw [skN_sk d2]; exact h59) z)⟩⟩)⟩
            · obtain ⟨g2, s2⟩ := s.inc
              exact p2 f hf P _ Q s2 (by rw [up_at, if_neg (by omega)]; exact a16) (by rw [up_of _ _ _ _ (by omega)]; exact a7) (fun M2 g3 e => hq M2 (((g.mono (by omega)).trans (v12.of (u12.of g2)) (Nat.le_refl k)).trans g3 (by omega)) e) R17 h17
            · rw [skN_sk d2] at s2
              exact p3 P M2 kk Q s2 (e10.trans b10) (by rw [e2, e]; exact h33) (fun M3 g3 => hq M3 ((g.trans (v7.of g2) (Nat.le_refl k)).trans g3 (by omega)))
          · refine Or.inr ⟨n, fun j => if j = k then x1 else fc j, fun j => if j = k then y1 else yt j, fun j => if j = k then z1 else nt j, by omega, t2, by omega, fun j q1 q2 => ?_, fun f hf P M Q hs hh h7 hq => ref f hf P M Q hs hh h7 (fun M' g s a16 a7 a4 a5 a6 R17 h17 => ⟨fun _ => ⟨fun z => absurd z h12, fun _ => ?_⟩, fun z => absurd h59 z⟩), fun P M kk Q hs hh h33 hq => cls P M kk Q hs hh (fun M' R134 h134 g e s b10 b4 b1 b2 b3 => ⟨fun z => by omega, fun _ => ⟨fun z => absurd z h12, fun _ => s.needs' (v := 59) hT m2 (by omega) (fun _ M2 g2 e2 e10 s2 => ⟨jb_1, bn2 (by decide) (h134 1 M2 ?_)⟩) (fun z => absurd (by rw [skN_sk d2]; exact h59) z)⟩⟩)⟩
            · by_cases z : j = k
              · simp only [if_pos z]
                subst z
                exact ⟨d3, tOk_of d4 (fun y => by have := hiT_v (h := h) y; have := hiT_ge (hiT h y1) z1; omega), tOk_of d5 (fun y => by have := hiT_v (h := hiT h y1) y; omega)⟩
              · simp only [if_neg z]; exact t3 j (by omega) q2
            · obtain ⟨g2, s2⟩ := s.inc
              refine t4 f hf P _ Q s2 (by rw [up_at, if_neg (by omega)]; exact a16) (by rw [up_of _ _ _ _ (by omega)]; exact a7) (fun M2 g3 x1 x2 x3 => hq M2 (((g.mono (by omega)).trans (v12.of (u12.of g2)) (Nat.le_refl k)).trans g3 (by omega)) x1 x2 (fun j q1 q2 => ?_)) R17 h17
              by_cases z : j = k
              · simp only [if_pos z]
                have fr : ∀ q, 4 ≤ q → q ≤ 6 → M2 q (12 * f + j) = M' q (12 * f + k) := fun q a b => by rw [z, g3.2.2.1 q a b _ (by omega), up_of _ _ _ _ (by omega)]
                exact ⟨(fr 4 (by omega) (by omega)).trans a4, (fr 5 (by omega) (by omega)).trans a5, (fr 6 (by omega) (by omega)).trans a6⟩
              · simp only [if_neg z]
                exact x3 j (by omega) q2
            · rw [skN_sk d2] at s2
              refine t5 P M2 kk Q s2 (e10.trans b10) (by rw [e2, e]; exact h33) (fun M3 g3 x1 x2 x3 => hq M3 ((g.trans (v7.of g2) (Nat.le_refl k)).trans g3 (by omega)) x1 x2 (fun j q1 q2 => ?_))
              by_cases z : j = k
              · simp only [if_pos z]
                have fr : ∀ r, 1 ≤ r → r ≤ 3 → M3 (spF A + r) j = M' (spF A + r) k := fun r a b => by rw [z, g3.2.2.2 _ (by omega) (by omega) k (by omega), g2.1 _ (by omega) (by omega)]
                exact ⟨(fr 1 (by omega) (by omega)).trans b1, (fr 2 (by omega) (by omega)).trans b2, (fr 3 (by omega) (by omega)).trans b3⟩
              · simp only [if_neg z]
                exact x3 j (by omega) q2
      · by_cases h0 : chN A (skN A i1) = 0
        · have hend := ch_end hT m2 h0
          have sk2 := skN_sk d2
          -- the reference at the end
          have rend : ∀ (f : Nat), f ≤ 6 → ∀ (P : jP) (M : jM) (Q : jM → Prop), S12 M A 0 (skN A i1) 0 → M 1 16 = nI (hiT (hiT h y1) z1) → M 7 f = nI (k + 1) → (hiT (hiT h y1) z1 < k + 1 → ∀ M', f12 M M' → S12 M' A 0 (skN A i1) 0 → Q M') → (¬ hiT (hiT h y1) z1 < k + 1 → ∀ M', f12 M M' → M' 1 6 = nI (skN A i1) → Q M') → ef12 P (nI f) Q M := by
            intro f hf P M Q hs a16 a7 q1 q2
            unfold ef12
            refine hs.look hT m2 (fun M8 g s => ?_)
            rw [sk2] at s ⊢
            have b16 : M8 1 16 = nI (hiT (hiT h y1) z1) := by rw [g.2 16 (by omega) (by omega) (by omega)]; exact a16
            have b7 : M8 7 f = nI (k + 1) := by rw [g.1 7 (by omega)]; exact a7
            intro R223 h223
            rw [ef f hf, b16, b7, nI_ltI (by omega) (by omega)]
            refine bn_t ((hR_n1 hT).mpr h0) ⟨vf f hf, br_c (fun z => q1 z M8 g s) (fun z => h223 (s.fails (fun M9 g2 e => q2 z M9 (g.trans g2) e)))⟩
          have cend : ∀ (P : jP) (M : jM) (kk : Nat) (Q : Int32 → jM → Prop), S7 P M A (skN A i1) kk → M 3 3 = -1 → M 4 10 = nI (hiT (hiT h y1) z1) → M 4 4 = nI (k + 1) → (hiT (hiT h y1) z1 < k + 1 → Q (-1) M) → (¬ hiT (hiT h y1) z1 < k + 1 → ∀ M', u7 M M' → Q (nI (skN A i1)) M') → rl7 P 2 0 (nI (k + 1)) M Q := by
            intro P M kk Q hs h33 a10 a4 q1 q2
            refine stop7 P M Q (fun R183 h183 => bn_t h33 (bn_t rfl ?_))
            rw [a10, a4, nI_ltI (by omega) (by omega)]
            refine br_c (fun z => h183 _ ?_) (fun z => ?_)
            · rw [h33]; exact q1 z
            · unfold w_X10_miss
              refine h183 _ ?_
              rw [up_at, if_pos rfl, hs.1.len, ← hend]
              exact q2 z _ (u7.u3 (by omega) _)
          by_cases hfin : hiT (hiT h y1) z1 < k + 1
          · refine Or.inr ⟨k + 1, fun _ => x1, fun _ => y1, fun _ => z1, by omega, by omega, by omega, fun j q1 q2 => ?_, fun f hf P M Q hs hh h7 hq => ref f hf P M Q hs hh h7 (fun M' g s a16 a7 a4 a5 a6 R17 h17 => ⟨fun z => absurd z h59, fun _ => h17 0 M' (bn3 rfl (rend f hf P M' Q s a16 a7 (fun _ M2 g2 s2 => ?_) (fun z => absurd hfin z)))⟩), fun P M kk Q hs hh h33 hq => cls P M kk Q hs hh (fun M' R134 h134 g e s b10 b4 b1 b2 b3 => ⟨fun _ => h134 0 M' (cend P M' kk Q s (e.trans h33) b10 b4 (fun _ => hq M' g (e.trans h33) b4 (fun j q1 q2 => ?_)) (fun z => absurd hfin z)), fun z => absurd h0 z⟩)⟩
            · have : j = k := by omega
              subst this
              show x1 < A.1 0 ∧ tOkN j (j + 1) y1 ∧ tOkN j (j + 1) z1
              exact ⟨d3, tOk_of d4 (fun y => by have := hiT_v (h := h) y; have := hiT_ge (hiT h y1) z1; omega), tOk_of d5 (fun y => by have := hiT_v (h := hiT h y1) y; omega)⟩
            · refine hq M2 ((g.mono (by omega)).trans (v12.of (u12.of g2)) (Nat.le_refl k)) s2.2.2.1 (by rw [g2.1 7 (by omega)]; exact a7) (fun j q1 q2 => ?_)
              rw [show j = k by omega]
              exact ⟨by rw [g2.1 4 (by omega)]; exact a4, by rw [g2.1 5 (by omega)]; exact a5, by rw [g2.1 6 (by omega)]; exact a6⟩
            · rw [show j = k by omega]
              exact ⟨b1, b2, b3⟩
          · exact Or.inl ⟨skN A i1, m2, fun f hf P M Q hs hh h7 hq => ref f hf P M Q hs hh h7 (fun M' g s a16 a7 a4 a5 a6 R17 h17 => ⟨fun z => absurd z h59, fun _ => h17 0 M' (bn3 rfl (rend f hf P M' Q s a16 a7 (fun z => absurd z hfin) (fun _ M2 g2 e => hq M2 ((g.mono (by omega)).trans (v12.of (u12.of g2)) (Nat.le_refl k)) e)))⟩), fun P M kk Q hs hh h33 hq => cls P M kk Q hs hh (fun M' R134 h134 g e s b10 b4 b1 b2 b3 => ⟨fun _ => h134 0 M' (cend P M' kk Q s (e.trans h33) b10 b4 (fun z => absurd z hfin) (fun _ M2 g2 => hq M2 (g.trans (v7.of g2) (Nat.le_refl k)))), fun z => absurd h0 z⟩)⟩
        · refine Or.inl ⟨skN A i1, m2, fun f hf P M Q hs hh h7 hq => ref f hf P M Q hs hh h7 (fun M' g s a16 a7 a4 a5 a6 R17 h17 => ⟨fun z => absurd z h59, fun _ => h17 0 M' (bn3 rfl ?_)⟩), fun P M kk Q hs hh h33 hq => cls P M kk Q hs hh (fun M' R134 h134 g e s b10 b4 b1 b2 b3 => ⟨fun z => absurd z h0, fun _ => ⟨fun _ => s.miss' (fun M2 g2 e2 => ⟨jb_0, bn3 rfl (h134 0 M2 (stopF P M2 Q _ (by omega) e2 (hq M2 (g.trans (v7.of g2) (Nat.le_refl k)))))⟩), fun _ => s.needs' (v := 59) hT m2 (by omega) (fun z => absurd (by rw [skN_sk d2] at z; exact z) h59) (fun _ M2 g2 e2 => ⟨jb_0, bn3 rfl (h134 0 M2 (stopF P M2 Q (skN A i1) (by omega) (by rw [skN_sk d2] at e2; exact e2) (hq M2 (g.trans (v7.of g2) (Nat.le_refl k)))))⟩)⟩⟩)⟩
          unfold ef12
          refine s.look hT m2 (fun M8 g2 s2 => ?_)
          rw [skN_sk d2] at s2 ⊢
          intro R223 h223
          exact bn_f (fun z => h0 ((hR_n1 hT).mp z)) (h223 (s2.fails (fun M9 g3 e => hq M9 ((g.mono (by omega)).trans (v12.of (u12.of (g2.trans g3))) (Nat.le_refl k)) e)))
