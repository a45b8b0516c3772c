theorem s11_person {P : jP} {M : jM} {A : aS} (h : RelC P M A) {s : Int64} {w : Int32} {Q : Int32 → Prop} (hq : Q (personS A s w)) : w_X11_person P s w M Q := by
  have h6 := h.num
  unfold wfNum at h6
  have hP := h.1.2.2.2.2.2.1
  unfold w_X11_person
  rw [h.sortn]
  refine br_c (fun z => ?_) (fun z => br_c (fun y => ?_) (fun y => br_c (fun v => ?_) (fun v => ?_)))
  · have z2 : A.1 5 = 0 := (nI_eq (b := 0) (by omega) (by omega)).mp z
    rw [personS, if_neg (fun y => y.1 z2)] at hq; exact hq
  · rw [personS, if_neg (fun q => q.2.1 y)] at hq; exact hq
  · have z2 : ¬ A.1 5 = 0 := fun e => z (by rw [e]; rfl)
    rw [personS, if_pos ⟨z2, y, Int32.not_lt.mpr v⟩] at hq
    obtain ⟨hk, t1, t2⟩ := srtOf_lt hP (by omega) s z2
    have hd := dr_ok (stp s) t1 (by omega)
    intro R35 h35
    have go : ∀ x4 : Int32, (x4 = 0 ↔ ¬ w = 0) → R35 x4 := by
      intro x4 hx4
      refine h35 x4 ?_
      unfold w_X5_drawn w_X5_stepped w_X5_allWeights
      rw [h.sortn, h.facts7]
      intro R4 h4
      refine lp_up (R := fun n => R4 (nI (sumN (wtA A) n)) (nI n)) (A.1 5) ?_ ?_ 0 (Nat.zero_le _)
      · refine h4 _ _ (br_t (nI_le (Nat.le_refl _) (by omega)) ?_)
        unfold w_X5_draw
        refine br_t (nI_le (a := 1) (b := totW A) t1 (by omega)) ⟨hd.2.2, ?_⟩
        show w_X5_sortOf P (drI (stp s) (nI (totW A))) M _
        rw [hd.1]
        unfold w_X5_sortOf
        rw [h.sortn]
        intro R5 h5
        have fin : ∀ k, k < A.1 5 → k = srtOf A s → ∀ R27 : Int64 → Int32 → Int32 → Prop, (∀ (x13 : Int64) (x14 : Int32) (x15 : Int32), ((nI (A.1 0) ≤ x15 → ((x4 = 0 → Q (nI k)) ∧ (¬ x4 = 0 → Q x14))) ∧ (¬ nI (A.1 0) ≤ x15 → (w_X5_draw P (stp x13) 10 (fun r21 => vp_in (nI k) (4) ∧ jin P (31 + (nI k).toNatClampNeg) x15 ∧ ∀ R72 : Int32 → Prop, (∀ (x26 : Int32), (R27 (stp x13) x26 (x15 + 1)) → R72 x26) → (M (31 + (nI k).toNatClampNeg) x15.toNatClampNeg ≤ r21 → R72 x14) ∧ (¬ M (31 + (nI k).toNatClampNeg) x15.toNatClampNeg ≤ r21 → R72 (x14 ||| ((1 : Int32) <<< (x15 &&& 31)))))))) → R27 x13 x14 x15) → R27 (stp s) 0 0 := by
          intro k hk5 ek R27 h27
          refine lp_up (R := fun f => R27 (sedF s f) (nI (bitsN (traitB A s k) f)) (nI f)) (A.1 0) ?_ ?_ 0 (Nat.zero_le _)
          · refine h27 _ _ _ (br_t (nI_le (Nat.le_refl _) (by omega)) (br_c (fun z => ?_) (fun z => ?_)))
            · rw [if_neg (hx4.mp z), ← ek] at hq; exact hq
            · rw [if_pos (Classical.byContradiction fun q => z (hx4.mpr q)), ← ek] at hq; exact hq
          · intro f hf ih
            refine h27 _ _ _ (br_f (nI_ge hf (by omega)) ?_)
            have hd10 := dr_ok (stp (sedF s f)) (t := 10) (by omega) (by omega)
            have hci : cIA P (31 + k) = some (A.1 0) := (chIA (by omega)).trans (congrArg some h.2.1.1)
            unfold w_X5_draw
            refine br_t (by decide) ⟨hd10.2.2, vin (by omega) (by omega), ?_⟩
            rw [nI_clamp (show k < 2 ^ 31 by omega), nI_clamp (show f < 2 ^ 31 by omega), h.chance hk5 hf]
            refine ⟨jin_of hci hf (by omega), ?_⟩
            intro R72 h72
            have ed : drI (stp (sedF s f)) 10 = nI (drN (sedF s (f + 1)) 10) := hd10.1
            rw [bitsN_or] at ih
            show (_ ≤ drI (stp (sedF s f)) 10 → _) ∧ (¬ _ ≤ drI (stp (sedF s f)) 10 → _)
            rw [ed]
            refine br_c (fun c => h72 _ ?_) (fun c => h72 _ ?_)
            · rw [if_neg (show ¬ traitB A s k f = true by unfold traitB; rw [decide_eq_true c]; decide), Nat.or_zero] at ih
              rw [nI_1]
              exact ih
            · rw [if_pos (show traitB A s k f = true by unfold traitB; rw [decide_eq_false c]; rfl)] at ih
              rw [shl1 (by omega), nI_or, nI_1]
              exact ih
        exact pick_walk0 (A := A) (S := A.1 5) (x := drN (stp s) (totW A)) (R := R5) (Z := fun k => k = srtOf A s) (fun k x hk5 hx ek => by
          obtain ⟨w1, w2, w3⟩ := wt_ok hP hk5
          have e29 : M 29 k = A.2 17 k := h.2.2.1 29 k hk5
          refine h5 _ _ (br_f (nI_ge hk5 (by omega)) ⟨vin (by omega) (by omega), ?_⟩)
          rw [nI_clamp (show k < 2 ^ 31 by omega), e29, w1]
          refine br_f (fun z => ?_) (fin k hk5 ek)
          have := (nI_sub_lt (a := x) (b := wtA A k) (k := 0) (by omega) (by omega) (by omega)).mpr (by omega)
          exact absurd this (Int32.not_lt.mpr z)) (fun k x hk5 hx hb hr => by
          obtain ⟨w1, w2, w3⟩ := wt_ok hP hk5
          have e29 : M 29 k = A.2 17 k := h.2.2.1 29 k hk5
          refine h5 _ _ (br_f (nI_ge hk5 (by omega)) ⟨vin (by omega) (by omega), ?_⟩)
          rw [nI_clamp (show k < 2 ^ 31 by omega), e29, w1, pk_sub hx, nI_1]
          exact br_t (nI_le (a := 0) (Nat.zero_le _) (by omega)) hr) (by have := hd.2.1; omega) hd.2.1 rfl
      · intro n hn ih
        obtain ⟨w1, w2, w3⟩ := wt_ok hP hn
        have e29 : M 29 n = A.2 17 n := h.2.2.1 29 n hn
        refine h4 _ _ (br_f (nI_ge hn (by omega)) ⟨vin (by omega) (by omega), ?_⟩)
        rw [nI_clamp (show n < 2 ^ 31 by omega), e29, w1, nI_add, nI_1]
        exact ih
    exact bn_c (fun z => go 0 ⟨fun _ => z, fun _ => rfl⟩) (fun z => go 1 ⟨fun q => absurd q (by decide), fun q => absurd z q⟩)
  · rw [personS, if_neg (fun q => q.2.2 (Int32.not_le.mp v))] at hq; exact hq
