theorem s12_person {P : jP} {M : jM} {N : jN} {A : aS} (h : RelM M A) {s : Int64} {w : Int32} {Q : Int32 → jM → jN → Prop} (hq : ∀ M' N', RelM M' A → (∀ k, k ≠ 1 → N' k = N k) → Q (personS A s w) M' N') : w_X12_person P s w M N Q := by
  unfold w_X12_person
  have h0 := h.thr 0
  generalize upM M 1 0 0 = M0 at h0 ⊢
  have h6 := h0.num
  unfold wfNum at h6
  have hP := h0.1.2.2.2.2.2.1
  rw [h0.sorts, h0.facts]
  refine br_c (fun z => ?_) (fun z => s12_isIn (br_j (fun hw => ?_) (fun hn => ?_)))
  · have z2 : A.1 5 = 0 := (nI_eq (b := 0) (by omega) (by omega)).mp z
    have hq := hq M0 N h0 (fun _ _ => rfl)
    rw [personS, if_neg (fun y => y.1 z2)] at hq; exact hq
  · have z2 : ¬ A.1 5 = 0 := fun e => z (by rw [e]; rfl)
    rw [personS, if_pos ⟨z2, hw⟩] at hq
    obtain ⟨hk, t1, t2⟩ := srtOf_lt hP (by omega) s z2
    intro R34 h34
    refine lp_up (R := fun n => R34 (nI (sumN (wtA A) n)) (nI n)) (A.1 5) ?_ ?_ 0 (Nat.zero_le _)
    · refine h34 _ _ (br_t (nI_le (Nat.le_refl _) (by omega)) ?_)
      have hd := dr_ok (stp s) t1 (by omega)
      unfold w_X12_draw
      rintro N1 rfl
      rw [upN_at, upN_at]
      refine ⟨hd.2.2, ?_⟩
      intro R72 h72
      have fin : ∀ k, k < A.1 5 → k = srtOf A s → ∀ R108 : Int32 → Int32 → jN → Prop, (∀ (x16 : Int32) (x17 : Int32) (N18 : jN), ((nI (A.1 0) ≤ x17 → ((¬ w = 0 → Q (nI k) M0 N18) ∧ (w = 0 → Q x16 M0 N18))) ∧ (¬ nI (A.1 0) ≤ x17 → (w_X12_draw P 10 N18 (fun r21 N22 => vp_in ((9 * nI k) + x17) (36) ∧ ∀ R149 : Int32 → Prop, (∀ (x25 : Int32), (R108 (x16 ||| x25) (x17 + 1) N22) → R149 x25) → (M0 18 ((9 * nI k) + x17).toNatClampNeg ≤ r21 → R149 0) ∧ (¬ M0 18 ((9 * nI k) + x17).toNatClampNeg ≤ r21 → R149 ((1 : Int32) <<< (x17 &&& 31)))))) → R108 x16 x17 N18)) → R108 0 0 (upN (upN N 1 37 s) 1 37 (stp s)) := by
        intro k hk5 ek R108 h108
        refine lp_up (R := fun f => ∀ N', N' 1 37 = sedF s f → (∀ k, k ≠ 1 → N' k = N k) → R108 (nI (bitsN (traitB A s k) f)) (nI f) N') (A.1 0) ?_ ?_ 0 (Nat.zero_le _) _ (upN_at _ _ _ _) (fun k hk => by rw [upN_ne _ _ _ hk, upN_ne _ _ _ hk])
        · intro N' _ hN
          have hq := hq M0 N' h0 hN
          refine h108 _ _ _ (br_t (nI_le (Nat.le_refl _) (by omega)) (bn_c (fun z => ?_) (fun z => ?_)))
          · rw [if_neg z, ← ek] at hq; exact hq
          · rw [if_pos z, ← ek] at hq; exact hq
        · intro f hf ih N' hs hN
          refine h108 _ _ _ (br_f (nI_ge hf (by omega)) ?_)
          have hd10 := dr_ok (stp (sedF s f)) (t := 10) (by omega) (by omega)
          unfold w_X12_draw
          rintro N1 rfl
          rw [upN_at, hs]
          refine ⟨hd10.2.2, ?_⟩
          have ix := ix9 (l := k) (k := f) (N := 36) (by omega) (by omega)
          refine ⟨ix.1, ?_⟩
          rw [ix.2, h0.row (by omega)]
          intro R149 h149
          have ed : drI (stp (sedF s f)) 10 = nI (drN (sedF s (f + 1)) 10) := hd10.1
          have hn : ∀ k, k ≠ 1 → upN N' 1 37 (stp (sedF s f)) k = N k := fun k hk => by rw [upN_ne _ _ _ hk, hN k hk]
          have ih2 := ih (upN N' 1 37 (stp (sedF s f))) (upN_at _ _ _ _) hn
          rw [bitsN_or] at ih2
          show (_ ≤ drI (stp (sedF s f)) 10 → _) ∧ (¬ _ ≤ drI (stp (sedF s f)) 10 → _)
          rw [ed]
          refine br_c (fun c => h149 _ ?_) (fun c => h149 _ ?_)
          · rw [if_neg (show ¬ traitB A s k f = true by unfold traitB; rw [decide_eq_true c]; decide)] at ih2
            rw [show (0 : Int32) = nI 0 from rfl, nI_or, nI_1]
            exact ih2
          · rw [if_pos (show traitB A s k f = true by unfold traitB; rw [decide_eq_false c]; rfl)] at ih2
            rw [shl1 (by omega), nI_or, nI_1]
            exact ih2
      have walk := pick_walk0 (A := A) (S := A.1 5) (x := drN (stp s) (totW A)) (R := R72) (Z := fun k => k = srtOf A s) (fun k x hk5 hx ek => by
        obtain ⟨w1, w2, w3⟩ := wt_ok hP hk5
        refine h72 _ _ ⟨vin (by omega) (by omega), ?_⟩
        rw [nI_clamp (show k < 2 ^ 31 by omega), h0.row (by omega), w1]
        exact br_t ((nI_ltI (by omega) (by omega)).mpr hx) (fin k hk5 ek)) (fun k x hk5 hx hb hr => by
        obtain ⟨w1, w2, w3⟩ := wt_ok hP hk5
        refine h72 _ _ ⟨vin (by omega) (by omega), ?_⟩
        rw [nI_clamp (show k < 2 ^ 31 by omega), h0.row (by omega), w1]
        refine br_f (fun z => by have := (nI_ltI (by omega) (by omega)).mp z; omega) ⟨vin (by omega) (by omega), ?_⟩
        rw [pk_sub hx, nI_1]
        exact hr) (by have := hd.2.1; omega) hd.2.1 rfl
      have e : drI (stp s) (nI (totW A)) = nI (drN (stp s) (totW A)) := hd.1
      rw [← e] at walk
      exact walk
    · intro n hn ih
      obtain ⟨w1, w2, w3⟩ := wt_ok hP hn
      refine h34 _ _ (br_f (nI_ge hn (by omega)) ⟨vin (by omega) (by omega), ?_⟩)
      rw [nI_clamp (show n < 2 ^ 31 by omega), h0.row (by omega), w1, nI_add, nI_1]
      exact ih
  · have hq := hq M0 N h0 (fun _ _ => rfl)
    rw [personS, if_neg (fun y => hn y.2)] at hq; exact hq
