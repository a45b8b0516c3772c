/-! asking out: the class's calls -/
theorem okL_no1 {A : aS} {b : Int32} (h : okL A b) : b ≠ -1 := fun e => h.1 (by rw [e]; decide)
theorem s11_isReady {P : jP} {M : jM} {N : jN} {A : aS} (h : RelC P M A) (hW : ∀ l, l < A.1 2 → WayS M A l) (hA : AskOK M N A) {a b kn so : Int32} {Q : Int32 → jM → jN → Prop} (hq0 : ¬ askOK A a b kn so → Q 0 M N) (hq1 : askOK A a b kn so → ∀ M' N', (∀ k, k ≠ 8 → k ≠ 37 → M' k = M k) → AskOK M' N' A → askH M' A a.toNatClampNeg b.toNatClampNeg (twoB b) → (∀ k s, vld (A.1 0) kn.toNatClampNeg so.toNatClampNeg k s → T11 M' N' A a.toNatClampNeg b.toNatClampNeg (twoB b) k s) → Q 1 M' N') : w_X11_isReady P a b kn so M N Q := by
  have h6 := h.num
  unfold wfNum at h6
  unfold w_X11_isReady
  have main : ∀ l k2, l < A.1 2 → a = nI l → (b = -1 ∨ okL A b) → k2 = (if twoB b = true then 64 + 8 * b.toNatClampNeg else 0) → w_X3_isKnown P kn so M (fun r8 => (¬ r8 = 0 → (w_X0_prepare P (64 + 8 * l) k2 kn so M N (fun M12 N13 => Q 1 M12 N13))) ∧ (r8 = 0 → (Q 0 M N))) := by
    intro l k2 hl el hb ek
    subst el
    have ol := okL_mk (M := M) h.1 hl
    refine s11_isKnown h (br_j (fun hk => ?_) (fun hn => hq0 (fun z => hn z.2.2)))
    have hq1 := hq1 ⟨ol.1, hb, hk⟩
    obtain ⟨k, s, k1, s1, rfl, rfl, hsub, k2', s2⟩ := okK_of h.1 hk
    rw [nI_clamp (show l < 2 ^ 31 by omega), nI_clamp (show k < 2 ^ 31 by omega), nI_clamp (show s < 2 ^ 31 by omega)] at hq1
    have ho : twoB b = true → b.toNatClampNeg < A.1 2 := fun t => by
      have hb := hb.resolve_left (fun e => by rw [twoB_iff.mp e] at t; exact absurd t (by decide))
      obtain ⟨o, o1, o2⟩ := (ok3 (show A.1 2 < 2 ^ 31 by omega)).mp hb
      rw [o2, nI_clamp (show o < 2 ^ 31 by omega)]
      exact o1
    exact s11_prepare h hW hA hl ho ek k1 s1 hsub (fun M' N' g hA' hh ht => hq1 M' N' g hA' hh ht)
  refine s11_lawAt h (fun hn => ?_) (fun l hl el => ?_)
  · refine s11_lawAt h (fun _ => br_t rfl (hq0 (fun z => hn z.1))) (fun _ _ _ => br_t rfl (hq0 (fun z => hn z.1)))
  · refine s11_lawAt h (fun hn => br_f (by omega) ?_) (fun o ho eo => br_f (by omega) ?_)
    · intro R29 h29
      refine ⟨fun z => absurd rfl z, fun _ => br_c (fun z => ?_) (fun z => ?_) |> fun x => ⟨fun w => x.2 (fun y => w y), fun w => x.1 w⟩⟩
      · exact h29 (main l 0 hl el (Or.inl z) (by rw [twoB_iff.mp z]; rfl))
      · exact hq0 (fun y => y.2.1.elim z hn)
    · intro R29 h29
      have hb : okL A b := by rw [eo]; exact (ok3 (by omega)).mpr ⟨o, ho, rfl⟩
      have tb : twoB b = true := by
        cases e : twoB b with
        | true => rfl
        | false => exact absurd (twoB_iff.mpr e) (okL_no1 hb)
      refine ⟨fun _ => h29 (main l _ hl el (Or.inr hb) (by rw [tb, if_pos rfl, eo, nI_clamp (show o < 2 ^ 31 by omega)])), fun z => absurd z (by omega)⟩
/-- the laws that the tables speak of are there -/
def RefOK (M : jM) (A : aS) : Prop := ∀ j, j = 6 ∨ j = 7 → M 8 j = 0 ∨ ∃ l, l < A.1 2 ∧ M 8 j = nI (64 + 8 * l)
theorem RefOK.of {M : jM} {A : aS} {l o : Nat} {two : Bool} (h : askH M A l o two) : RefOK M A := by
  intro j hj
  rcases hj with rfl | rfl
  · exact Or.inr ⟨l, h.1, h.2.2.1⟩
  · cases two with
    | true => exact Or.inr ⟨o, h.2.1 rfl, h.2.2.2⟩
    | false => exact Or.inl h.2.2.2
theorem s11_mean {P : jP} {M : jM} {N : jN} {A : aS} (h : RelC P M A) (hW : ∀ l, l < A.1 2 → WayS M A l) (hA : AskOK M N A) {a b kn so : Int32} {Q : Int64 → jM → jN → Prop} (hq : ∀ M' N', (∀ k, k ≠ 8 → k ≠ 37 → M' k = M k) → AskOK M' N' A → (RefOK M A → RefOK M' A) → Q (meanS A a b kn so) M' N') : w_X11_mean P a b kn so M N Q := by
  unfold w_X11_mean
  refine s11_isReady h hW hA (fun no => ⟨fun _ => ?_, fun z => absurd rfl z⟩) (fun ok M' N' g hA' hh ht => ⟨fun z => absurd z (by decide), fun _ => ?_⟩)
  · have hq := hq M N (fun _ _ _ => rfl) hA id
    rw [meanS, if_neg no] at hq
    exact hq
  · have hq := hq M' N' g hA' (fun _ => RefOK.of hh)
    rw [meanS, if_pos ok] at hq
    have h' := h.k37 g
    have h9 := h.n9
    obtain ⟨k, s, k1, s1, rfl, rfl, hsub, k2, s2⟩ := okK_of h.1 ok.2.2
    rw [nI_clamp (show k < 2 ^ 31 by omega), nI_clamp (show s < 2 ^ 31 by omega)] at hq ht
    have T := ht k s ⟨k1, Nat.and_self k, hsub, hsub⟩
    have pl := place_lt h9 k1 s1
    have z2 : P.2.2 2 = 3 ^ A.1 0 := h.2.1.2.2.1
    refine s11_place h' k1 s1 ⟨vin (by omega) (by omega), ?_⟩
    rw [nI_clamp (show sum3 k + sum3 s < 2 ^ 31 by omega), T.2.1]
    exact hq
theorem s11_worst {P : jP} {M : jM} {N : jN} {A : aS} (h : RelC P M A) (hW : ∀ l, l < A.1 2 → WayS M A l) (hA : AskOK M N A) {a b kn so : Int32} {Q : Int32 → jM → jN → Prop} (hq : ∀ M' N', (∀ k, k ≠ 8 → k ≠ 37 → M' k = M k) → AskOK M' N' A → (RefOK M A → RefOK M' A) → Q (worstS A a b kn so) M' N') : w_X11_worst P a b kn so M N Q := by
  unfold w_X11_worst
  refine s11_isReady h hW hA (fun no => ⟨fun _ => ?_, fun z => absurd rfl z⟩) (fun ok M' N' g hA' hh ht => ⟨fun z => absurd z (by decide), fun _ => ?_⟩)
  · have hq := hq M N (fun _ _ _ => rfl) hA id
    rw [worstS, if_neg no] at hq
    exact hq
  · have hq := hq M' N' g hA' (fun _ => RefOK.of hh)
    rw [worstS, if_pos ok] at hq
    have h' := h.k37 g
    have h9 := h.n9
    obtain ⟨k, s, k1, s1, rfl, rfl, hsub, k2, s2⟩ := okK_of h.1 ok.2.2
    rw [nI_clamp (show k < 2 ^ 31 by omega), nI_clamp (show s < 2 ^ 31 by omega)] at hq ht
    have T := ht k s ⟨k1, Nat.and_self k, hsub, hsub⟩
    have pl := place_lt h9 k1 s1
    have z2 : P.2.2 2 = 3 ^ A.1 0 := h.2.1.2.2.1
    refine s11_place h' k1 s1 ⟨vin (by omega) (by omega), ?_⟩
    rw [nI_clamp (show sum3 k + sum3 s < 2 ^ 31 by omega), T.2.2]
    exact hq
theorem s11_best {P : jP} {M : jM} {N : jN} {A : aS} (h : RelC P M A) (hW : ∀ l, l < A.1 2 → WayS M A l) (hA : AskOK M N A) {a b kn so w : Int32} {Q : Int32 → jM → jN → Prop} (hq : ∀ M' N', (∀ k, k ≠ 8 → k ≠ 37 → M' k = M k) → AskOK M' N' A → (RefOK M A → RefOK M' A) → Q (bestS A a b kn so w) M' N') : w_X11_best P a b kn so w M N Q := by
  have hq0 := hq M N (fun _ _ _ => rfl) hA id
  unfold w_X11_best
  refine br_c (fun z => ?_) (fun w1 => br_c (fun z => ?_) (fun w2 => s11_isReady h hW hA (fun no => ⟨fun z => absurd rfl z, fun _ => ?_⟩) (fun ok M' N' g hA' hh ht => ⟨fun _ => ?_, fun z => absurd z (by decide)⟩)))
  · rw [bestS, if_neg (fun y => y.1.1 z)] at hq0
    exact hq0
  · rw [bestS, if_neg (fun y => y.1.2 z)] at hq0
    exact hq0
  · rw [bestS, if_neg (fun y => no y.2)] at hq0
    exact hq0
  · have hq := hq M' N' g hA' (fun _ => RefOK.of hh)
    rw [bestS, if_pos ⟨⟨w1, w2⟩, ok⟩] at hq
    have h' := h.k37 g
    have h9 := h.n9
    have hC := h.C512
    have hW' : ∀ l, l < A.1 2 → WayS M' A l := fun q hq2 => by
      unfold WayS
      rw [g (64 + 8 * q + 4) (by omega) (by omega)]
      exact hW q hq2
    obtain ⟨k, s, k1, s1, rfl, rfl, hsub, k2, s2⟩ := okK_of h.1 ok.2.2
    rw [nI_clamp (show k < 2 ^ 31 by omega), nI_clamp (show s < 2 ^ 31 by omega)] at hq ht
    have T := ht k s ⟨k1, Nat.and_self k, hsub, hsub⟩
    have hle := meG_le h.1 (l := a.toNatClampNeg) (o := b.toNatClampNeg) (two := twoB b) k1 hsub
    have pl := place_lt h9 k1 s1
    have z2 : P.2.2 2 = 3 ^ A.1 0 := h.2.1.2.2.1
    refine s11_place h' k1 s1 ?_
    rw [h'.full, nI_andn (show 2 ^ A.1 0 - 1 < 4096 by omega)]
    intro R60 h60
    have main : ∀ x12 : Int32, (x12 = 0 ↔ ¬ w = 0) → R60 (nI (sum3 k + sum3 s)) (nI (andn (2 ^ A.1 0 - 1) k)) x12 := by
      intro x12 hx
      refine h60 _ _ _ ?_
      unfold w_X0_lowestBest
      refine s11_outAt h' hW' hh k1 s1 hsub (fun t => ⟨fun _ => ?_, fun z => absurd z (by decide)⟩) (fun t => ⟨fun z => absurd rfl z, fun _ => ⟨vin (by omega) (by omega), ?_⟩⟩)
      · rw [bestV, if_pos (Or.inl t)] at hq; exact hq
      · rw [nI_clamp (show sum3 k + sum3 s < 2 ^ 31 by omega), T.2.1, T.2.2, wI_1 hle.2.1]
        refine bn_c (fun z => ?_) (fun z => ?_)
        · have hm : meG A a.toNatClampNeg b.toNatClampNeg (twoB b) k s < 1000000000000000 := by
            have := hle.1
            have := fun e => z (hle.2.2.mp e)
            omega
          have hwl : woG A a.toNatClampNeg b.toNatClampNeg (twoB b) k s < 1000000 := by
            have := hle.2.1
            omega
          rw [bestV, if_neg (fun y => y.elim t (fun u => u hm))] at hq
          intro R23 h23
          have step : ∀ f, f < A.1 0 → (besP A a.toNatClampNeg b.toNatClampNeg (twoB b) k s w f = true → Q (nI f) M' N') → (¬ besP A a.toNatClampNeg b.toNatClampNeg (twoB b) k s w f = true → R23 (nI (f + 1))) → R23 (nI f) := by
            intro f hf hy hno
            refine h23 _ ?_
            rw [h'.facts]
            refine br_f (nI_ge hf (by omega)) (s11_mayAsk h' hf (fun hop => ?_) (fun hop => ?_))
            · intro R88 h88
              have no : ¬ besP A a.toNatClampNeg b.toNatClampNeg (twoB b) k s w f = true → R88 := fun q => h88 (by rw [nI_1]; exact hno q)
              have hb := (opP_iff.mp hop).1
              obtain ⟨v1, v2⟩ := vld.child (root := k) (rs := s) ⟨k1, Nat.and_self k, hsub, hsub⟩ hf hb
              have T1 := ht _ _ v1
              have T2 := ht _ _ v2
              have hmb := mby_ok h.1 (l := a.toNatClampNeg) (o := b.toNatClampNeg) (two := twoB b) k1 hsub hf
              have bl := by_lt h.1 (l := a.toNatClampNeg) (o := b.toNatClampNeg) (two := twoB b) k1 hsub hf
              unfold besP at hy no
              rw [hop, Bool.true_and] at hy no
              refine ⟨fun z3 => absurd z3 (by decide), fun _ => ?_⟩
              rw [hx]
              refine bn_c (fun hw0 => ?_) (fun hw0 => ?_) |> fun y => ⟨fun u => y.1 u, fun u => y.2 (Classical.byContradiction u)⟩
              · rw [if_neg hw0, beq_iff_eq] at hy no
                refine s11_worstBy h' k1 s1 hsub hf hb T1 T2 ⟨vin (by omega) (by omega), ?_⟩
                generalize wbyA A a.toNatClampNeg b.toNatClampNeg (twoB b) k s f = x at hy no bl ⊢
                have w2 : wI (woG A a.toNatClampNeg b.toNatClampNeg (twoB b) k s) = nI (woG A a.toNatClampNeg b.toNatClampNeg (twoB b) k s) := if_pos hwl
                rw [w2]
                have e : wI x = nI (woG A a.toNatClampNeg b.toNatClampNeg (twoB b) k s) ↔ x = woG A a.toNatClampNeg b.toNatClampNeg (twoB b) k s := by
                  unfold wI
                  by_cases q : x < 1000000
                  · rw [if_pos q, nI_eq (by omega) (by omega)]
                  · rw [if_neg q]
                    exact ⟨fun y => absurd y.symm (nI_ne1 (by omega)), fun y => by omega⟩
                rw [e]
                exact bn_c no hy
              · rw [if_pos hw0, beq_iff_eq] at hy no
                refine s11_meanBy h' k1 s1 hsub hf hb T1 T2 T.1 ⟨vin (by omega) (by omega), ?_⟩
                generalize mbyA A a.toNatClampNeg b.toNatClampNeg (twoB b) k s f = x at hy no bl ⊢
                have w2 : mI (meG A a.toNatClampNeg b.toNatClampNeg (twoB b) k s) = lN (meG A a.toNatClampNeg b.toNatClampNeg (twoB b) k s) := if_pos hm
                rw [w2, lg_cmp_eq]
                have e : mI x = lN (meG A a.toNatClampNeg b.toNatClampNeg (twoB b) k s) ↔ x = meG A a.toNatClampNeg b.toNatClampNeg (twoB b) k s := by
                  unfold mI
                  by_cases q : x < 1000000000000000
                  · rw [if_pos q, pk_lEQ (by omega) (by omega)]
                  · rw [if_neg q]
                    exact ⟨fun y => absurd y.symm (lN_ne1 (by omega)), fun y => by omega⟩
                rw [e]
                exact bn_c no hy
            · intro R88 h88
              refine ⟨fun _ => h88 ?_, fun z3 => absurd rfl z3⟩
              rw [nI_1]
              refine hno (fun q => hop ?_)
              unfold besP at q
              rw [Bool.and_eq_true] at q
              exact q.1
          refine first_loop (Q := fun v => Q v M' N') hq (fun hm2 => h23 _ ?_) (fun f hf hp hy => step f hf (fun _ => hy) (fun q => absurd hp q)) (fun f hf hp hn => step f hf (fun q => absurd q hp) (fun _ => hn))
          rw [h'.facts]
          exact br_t (nI_le (Nat.le_refl _) (by omega)) hm2
        · have hm := hle.2.2.mpr z
          rw [bestV, if_pos (Or.inr (by omega))] at hq
          exact hq
    exact bn_c (fun z => main 0 ⟨fun _ => z, fun _ => rfl⟩) (fun z => main 1 ⟨fun y => absurd y (by decide), fun y => absurd z y⟩)
