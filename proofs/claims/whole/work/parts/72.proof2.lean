/-! proof: the two sides -/
abbrev prfG (A : aS) (l a : Nat) : Nat → Prop := fun s => sureV (sdA A l) (2 ^ A.1 0) s (a &&& s) ≠ -2
noncomputable def proofS (A : aS) (a c : Int32) : Int32 := if okL A a ∧ okC A c then bestF (prfG A a.toNatClampNeg c.toNatClampNeg) (2 ^ A.1 0) else -1
theorem prf_full {A : aS} (h : wfLaws A) {l a : Nat} (hl : l < A.1 2) (ha : a < 2 ^ A.1 0) : prfG A l a (2 ^ A.1 0 - 1) := by
  have e : a &&& (2 ^ A.1 0 - 1) = a := by rw [Nat.and_two_pow_sub_one_eq_mod, Nat.mod_eq_of_lt ha]
  show sureV _ _ _ (a &&& (2 ^ A.1 0 - 1)) ≠ -2
  rw [e, sureV, if_pos]
  · exact sd_ne2 h hl ha
  · intro c hc e2
    rw [Nat.and_two_pow_sub_one_eq_mod, Nat.mod_eq_of_lt hc] at e2
    rw [e2]
theorem s12_proof {P : jP} {M : jM} {A : aS} (h : RelM M A) {a c : Int32} {Q : Int32 → jM → Prop} (hq : ∀ M', RelM M' A → Q (proofS A a c) M') : w_X12_proof P a c M Q := by
  unfold w_X12_proof
  have h0 := h.thr 0
  generalize upM M 1 0 0 = M0 at h0 ⊢
  have hq := hq M0 h0
  have hC := h0.C512
  have hp := Nat.two_pow_pos (A.1 0)
  refine s12_isLaw h0 (br_i (fun hn => ?_) (fun hl => s12_isCase h0 (br_j (fun hc => ?_) (fun hn => ?_))))
  · rw [proofS, if_neg (fun z => hn z.1)] at hq; exact hq
  · rw [proofS, if_pos ⟨hl, hc⟩] at hq
    obtain ⟨l, hl1, hl2, rfl⟩ := okL_of h0 hl
    obtain ⟨k, hk1, hk2, rfl⟩ := okC_of h0 hc
    rw [nI_clamp (show l < 2 ^ 31 by omega), nI_clamp (show k < 2 ^ 31 by omega), ref_best_full h0.n9 (prf_full h0.1.2.2.1 hl1 hk1)] at hq
    have e1 : nI (2 ^ A.1 0) - 1 = nI (2 ^ A.1 0 - 1) := pk_sub (a := 2 ^ A.1 0) (b := 1) hp
    rw [h0.cases, e1]
    intro R hR
    refine lp_up (R := fun s => R (refF (prfG A l k) (2 ^ A.1 0 - 1) s) (nI s)) (2 ^ A.1 0) (hR _ _ (br_t (nI_le (Nat.le_refl _) (by omega)) hq)) ?_ 0 (Nat.zero_le _)
    intro s hs ih
    refine hR _ _ (br_f (nI_ge hs (by omega)) ?_)
    have keep : refF (prfG A l k) (2 ^ A.1 0 - 1) (s + 1) = refF (prfG A l k) (2 ^ A.1 0 - 1) s → R (refF (prfG A l k) (2 ^ A.1 0 - 1) s) (nI s + 1) := fun e => by
      rw [nI_1, ← e]; exact ih
    refine s12_isBefore (fun hb => ?_) (fun hb => ?_)
    · intro R70 h70
      rw [nI_and]
      have hks : k &&& s < 512 := Nat.lt_of_le_of_lt Nat.and_le_left hk2
      refine br_f (by decide) (s12_sureOf h0 hl2 (by omega) hks (br_c (fun z => h70 _ (keep (refF_f (fun q => q.2 z)))) (fun z => h70 _ ?_)))
      rw [refF_t ⟨hb, z⟩] at ih
      rw [nI_1]; exact ih
    · intro R70 h70
      exact br_t rfl (h70 _ (keep (refF_f (fun q => hb q.1))))
  · rw [proofS, if_neg (fun z => hn z.2)] at hq; exact hq
theorem s11_proof {P : jP} {M : jM} {A : aS} (h : RelC P M A) (hW : ∀ l, l < A.1 2 → WayS M A l) {a c : Int32} {Q : Int32 → Prop} (hq : Q (proofS A a c)) : w_X11_proof P a c M Q := by
  unfold w_X11_proof
  have hC := h.C512
  have hp := Nat.two_pow_pos (A.1 0)
  refine s11_lawAt h (fun hn => br_t rfl ?_) (fun l hl el => br_f (by omega) (s11_isCase h (br_j (fun hc => ?_) (fun hn => ?_))))
  · rw [proofS, if_neg (fun z => hn z.1)] at hq; exact hq
  · subst el
    have ol := okL_mk (M := M) h.1 hl
    obtain ⟨k, hk, rfl⟩ := (ok3 (by omega)).mp hc
    rw [proofS, if_pos ⟨ol.1, hc⟩, nI_clamp (show l < 2 ^ 31 by omega), nI_clamp (show k < 2 ^ 31 by omega)] at hq
    rw [h.full]
    intro R hR
    refine lp_up (R := fun s => R (bestF (prfG A l k) s) (nI s)) (2 ^ A.1 0) (hR _ _ (br_t ((nI_ltI (by omega) (by omega)).mpr (by omega)) hq)) ?_ 0 (Nat.zero_le _)
    intro s hs ih
    refine hR _ _ (br_f (fun z => by have := (nI_ltI (by omega) (by omega)).mp z; omega) ?_)
    have keep : bestF (prfG A l k) (s + 1) = bestF (prfG A l k) s → R (bestF (prfG A l k) s) (nI s + 1) := fun e => by
      rw [nI_1, ← e]; exact ih
    refine s11_isAhead (fun hb => ?_) (fun hb => ?_)
    · intro R75 h75
      rw [nI_and]
      have hks : k &&& s < 2 ^ A.1 0 := Nat.lt_of_le_of_lt Nat.and_le_left hk
      refine br_f (by decide) (s11_place h hs hks ⟨h.lw hl, s11_isSureAt h hl (hW l hl) hs hks (by rw [Nat.and_assoc, Nat.and_self]) (br_i (fun z => h75 _ (keep (bestF_f (fun q => z q.2)))) (fun z => h75 _ ?_))⟩)
      rw [bestF_t ⟨hb, z⟩] at ih
      rw [nI_1]; exact ih
    · intro R75 h75
      exact br_t rfl (h75 _ (keep (bestF_f (fun q => hb q.1))))
  · rw [proofS, if_neg (fun z => hn z.2)] at hq; exact hq
