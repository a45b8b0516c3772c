/-! fault, both sides -/
theorem RelM.v6 {M M' : jM} {A : aS} {u : Nat} (h : RelM M A) (g : v12 6 0 u M M') : RelM M' A := by
  refine ⟨h.1, fun k j hp => ?_⟩
  have hp' := hp
  unfold pA at hp'
  by_cases hk : k = 1
  · subst hk
    rw [g.2.1 j (by omega) (by omega)]
    exact h.2 1 j hp
  · by_cases h4 : 4 ≤ k ∧ k ≤ 6
    · rw [g.2.2.1 k h4.1 h4.2 j (by omega)]
      exact h.2 k j hp
    · by_cases h7 : k = 7
      · subst h7
        rw [g.2.2.2 j (by omega)]
        exact h.2 7 j hp
      · rw [g.1 k hk (by omega)]
        exact h.2 k j hp
/-- one reading on both sides: the same fault; the tape and all that lasts as it was -/
theorem readAs_jo {A : aS} (hT : wfT A) (hA : wfNum A) (s : Nat) (hs : s ≤ 2) : ∃ v : Int32, (∀ (P : jP) (M : jM) (Q : jM → Prop), RelM M A → (∀ M', RelM M' A → M' 1 6 = v → Q M') → w_X12_readAs P (nI s) M Q) ∧ ∀ (P : jP) (M : jM) (Q : Int32 → jM → Prop), RelC P M A → (∀ M', rC A M M' → Q v M') → w_X7_readAs P (nI s) M Q := by
  unfold wfNum at hA
  have h160 : A.1 1 ≤ 160 := hA.2.1
  have h9 : A.1 0 ≤ 9 := hA.1.2
  have : s = 0 ∨ s = 1 ∨ s = 2 := by omega
  rcases this with rfl | rfl | rfl
  · have top : ∀ (P : jP) (M : jM) (Q : jM → Prop), w_X12_readLaw P (nI 0) M Q → w_X12_readAs P (nI 0) M Q := by
      intro P M Q h
      unfold w_X12_readAs
      exact bn_t rfl h
    rcases rdL_ok hT h160 h9 with ⟨p, p1, p2, p3⟩ | ⟨n, o, st, un, en, cv, uv, t1, t2, t3, t4, t5⟩
    · exact ⟨nI p, fun P M Q hR hq => top P M Q (p2 P 0 M Q (by omega) hR.w (fun M' g e => hq M' (hR.g12 g) e)), fun P M Q hR hq => p3 P M Q hR (fun M' g => hq M' g)⟩
    · exact ⟨-1, fun P M Q hR hq => top P M Q (t4 P 0 M Q (by omega) hR.w (fun M' g e _ _ _ => hq M' (hR.g12 g) e)), fun P M Q hR hq => t5 P M Q hR (fun M' g _ => hq M' g)⟩
  · have top : ∀ (P : jP) (M : jM) (Q : jM → Prop), w_X12_readQuestion P (nI 0) M (fun _ M' => Q M') → w_X12_readAs P (nI 1) M Q := by
      intro P M Q h
      unfold w_X12_readAs
      exact bn_f (by decide) (bn_f (by decide) h)
    rcases rdQ_ok hT h160 h9 with ⟨p, p1, p2, p3⟩ | ⟨n, val, t1, t4, t5⟩
    · exact ⟨nI p, fun P M Q hR hq => top P M Q (p2 P 0 M _ (by omega) hR.w (fun _ M' _ g e => hq M' (hR.g12 g) e)), fun P M Q hR hq => p3 P M Q hR (fun M' g => hq M' g)⟩
    · exact ⟨-1, fun P M Q hR hq => top P M Q (t4 P 0 M _ (by omega) hR.w (fun M' g e => hq M' (hR.g12 g) e)), fun P M Q hR hq => t5 P M Q hR (fun M' g _ _ => hq M' g)⟩
  · have top : ∀ (P : jP) (M : jM) (Q : jM → Prop), w_X12_readForm P (nI 6) M Q → w_X12_readAs P (nI 2) M Q := by
      intro P M Q h
      unfold w_X12_readAs
      exact bn_f (by decide) (bn_t rfl h)
    rcases rdF_ok hT h160 h9 hA.2.2.2.2.1 with ⟨p, p1, p2, p3⟩ | ⟨n, fc, yt, nt, t1, t2, t3, t4, t5⟩
    · exact ⟨nI p, fun P M Q hR hq => top P M Q (p2 6 (by omega) P M Q hR.w (fun M' g e => hq M' (hR.v6 g) e)), fun P M Q hR hq => p3 P M Q hR (fun M' g => hq M' g)⟩
    · exact ⟨-1, fun P M Q hR hq => top P M Q (t4 6 (by omega) P M Q hR.w (fun M' g e _ _ => hq M' (hR.v6 g) e)), fun P M Q hR hq => t5 P M Q hR (fun M' g _ _ => hq M' g)⟩
theorem sort3 (x : Int32) : (x < 0 ∨ ¬ x ≤ 2) ∨ ∃ s : Nat, s ≤ 2 ∧ x = nI s := by
  rcases arg3 x (n := 3) (by omega) with h | ⟨h, h2⟩ | ⟨j, hj, e, _⟩
  · exact Or.inl (Or.inl h)
  · refine Or.inl (Or.inr (fun z => ?_))
    have h2' : (3 : Int32) ≤ x := h2
    have := Int32.le_iff_toInt_le.mp h2'
    have z' := Int32.le_iff_toInt_le.mp z
    have e3 : (3 : Int32).toInt = 3 := by decide
    have e2 : (2 : Int32).toInt = 2 := by decide
    omega
  · exact Or.inr ⟨j, by omega, e⟩
theorem fault_jo {A : aS} (hT : wfT A) (hA : wfNum A) (x : Int32) : ∃ v : Int32, (∀ (P : jP) (M : jM) (Q : Int32 → jM → Prop), RelM M A → (∀ M', RelM M' A → Q v M') → w_X12_fault P x M Q) ∧ ∀ (P : jP) (M : jM) (Q : Int32 → jM → Prop), RelC P M A → (∀ M', rC A M M' → Q v M') → w_X11_fault P x M Q := by
  rcases sort3 x with h | ⟨s, hs, rfl⟩
  · refine ⟨-2, fun P M Q hR hq => ?_, fun P M Q hR hq => ?_⟩
    · unfold w_X12_fault
      refine s12_isIn ?_
      have hb : ¬ (¬ x < 0 ∧ ¬ 2 < x) := fun z => by
        rcases h with h | h
        · exact z.1 h
        · exact h (Int32.not_lt.mp z.2)
      rw [bi_f hb]
      exact bn_t rfl (hq _ (hR.thr 0))
    · unfold w_X11_fault
      refine br_c (fun _ => hq M (rC.refl A M)) (fun z => bn2 (fun y => ?_) (hq M (rC.refl A M)))
      rcases h with h | h
      · exact z h
      · exact h y
  · obtain ⟨v, h1, h2⟩ := readAs_jo hT hA s hs
    have n0 : ¬ nI s < 0 := nI_pos (by omega)
    have n2 : nI s ≤ 2 := nI_le (b := 2) hs (by omega)
    refine ⟨v, fun P M Q hR hq => ?_, fun P M Q hR hq => ?_⟩
    · unfold w_X12_fault
      refine s12_isIn ?_
      rw [bi_t ⟨n0, Int32.not_lt.mpr n2⟩]
      exact bn_f (by decide) (h1 P _ _ (hR.thr 0) (fun M' r e => by rw [e]; exact hq M' r))
    · unfold w_X11_fault
      exact bn2 n0 (bn3 n2 (h2 P M _ hR (fun M' g => hq M' g)))
