abbrev rm_X12_cure : Room := { frames := 3, cells := 0, slots := 0, locals := 69 }
def w_X12_cure (P : jP) (a1 : Int32) (M : jM) (Q : Int32 → jM → Prop) : Prop :=
  w_X12_isLaw P a1 (upM M 1 0 0) (fun r1 =>
  (¬ r1 = 0 → (
   ∀ R19 : Int32 → Int32 → Prop, (∀ (x5 : Int32) (x6 : Int32), (
    vp_in a1 (6) ∧
    (((1 : Int32) <<< (((upM M 1 0 0) 10 a1.toNatClampNeg) &&& 31)) ≤ x6 → (
     Q x5 (upM M 1 0 0)
    )) ∧ (¬ ((1 : Int32) <<< (((upM M 1 0 0) 10 a1.toNatClampNeg) &&& 31)) ≤ x6 → (
     ∀ R55 : Int32 → Prop, (∀ (x9 : Int32), (
      R19 x9 (x6 + 1)
     ) → R55 x9) →
     ∀ R44 : Prop, ((
      w_X12_againstWithout P a1 x6 (upM M 1 0 0) (fun r10 =>
      (¬ r10 = 0 → (
       R55 x5
      )) ∧ (r10 = 0 → (
       R55 x6
      )))
     ) → R44) →
     (x5 = (-1) → (
      R44
     )) ∧ (¬ x5 = (-1) → (
      w_X12_isBefore P x6 x5 (fun r15 =>
      (r15 = 0 → (
       R55 x5
      )) ∧ (¬ r15 = 0 → (
       R44
      )))
     ))
    ))
   ) → R19 x5 x6) →
   R19 (-1) 0
  )) ∧ (r1 = 0 → (
   Q (-1) (upM M 1 0 0)
  )))
set_option maxRecDepth 20000 in
theorem c_X12_cure (l : Launch) (P : jP) (a1 : Int32) (M : jM) (N : jN) (Q : Int32 → jM → Prop) (h : w_X12_cure P a1 M Q) : jC l yX12_cure cX12_cure 4 (some .int) rm_X12_cure LM [.ref (P.1 1), .int a1] P M N (jqi P (fun r M' N' => N = N' ∧ Q r M' )) := by
  refine jC_of (by decide +kernel) [(0, .ref (P.1 1)), (1, .int a1)] (Nat.le_of_ble_eq_true rfl) rfl (fun X o => ?_)
  obtain ⟨E, hE⟩ : ∃ E, E = jE X rm_X12_cure (jqi P (fun r M' N' => N = N' ∧ Q r M' )) := ⟨_, rfl⟩
  rw [← hE]
  unfold w_X12_cure at h
  refine j_aload_n o dX12_cure_0 rfl ?_
  refine j_iconst o (v := 0) dX12_cure_1 rfl ?_
  refine j_putf o (M1 := upM M 1 0 0) (N1 := N) (g := 1) (slot := 0) (ci := 12) (ty := .int) rfl jin_X12 tyX12_ok nmX12 (by decide) rfl rfl jf_X12_114 (by decide +kernel) rfl rfl (Nat.le_of_ble_eq_true rfl) (fun _ => rfl) (fun _ => rfl) (fun _ hj => upM_ne _ _ _ hj) (fun _ _ => rfl) dX12_cure_2 ?_
  refine j_aload_n o dX12_cure_5 rfl ?_
  refine j_iload_n o dX12_cure_6 rfl ?_
  refine j_callVi (g := 1) (ci := 12) o (c_X12_isLaw l P a1 (upM M 1 0 0) N _ h) dX12_cure_7 jc_X12_233 jn_X12_isLaw rfl rfl rfl (fun _ => rfl) rfl rfl (fun r1 Mz2 Nz3 h => ?_)
  obtain ⟨rfl, rfl, h⟩ := h
  refine j_if_ne o (tgt := 15) dX12_cure_10 (by decide) (fun c4 => ?_) (fun c4 => ?_)
  · replace h := h.1 c4
    refine j_iconst o (v := (-1)) dX12_cure_15 rfl ?_
    refine j_istore_n o [(2, .int (-1)), (0, .ref (P.1 1)), (1, .int a1)] dX12_cure_16 (by decide) rfl ?_
    refine j_iconst o (v := 0) dX12_cure_17 rfl ?_
    refine j_istore_n o [(3, .int 0), (2, .int (-1)), (0, .ref (P.1 1)), (1, .int a1)] dX12_cure_18 (by decide) rfl ?_
    replace h := h (fun (x5 : Int32) (x6 : Int32) => J X P (upM M 1 0 0) N 0 0 E 4 19 [(0, .ref (P.1 1)), (1, .int a1), (2, .int x5), (3, .int x6)] []) (by
      intro x5 x6 h
      refine j_iload_n o dX12_cure_19 rfl ?_
      refine j_iconst o (v := 1) dX12_cure_20 rfl ?_
      refine j_aload_n o dX12_cure_21 rfl ?_
      refine j_getf o (g := 1) (slot := 19) (ci := 12) (v := .ref (P.1 10)) rfl jin_X12 (by decide) rfl jf_X12_35 (fun _ => rfl) rfl dX12_cure_22 ?_
      refine j_iload_n o dX12_cure_25 rfl ?_
      obtain ⟨hb7, h⟩ := h
      refine j_iald o (g := 10) (fun _ => rfl) hb7 dX12_cure_26 ?_
      refine j_ishl o dX12_cure_27 ?_
      refine j_icmp_ge o (tgt := 61) dX12_cure_28 (by decide) (fun c8 => ?_) (fun c8 => ?_)
      · replace h := h.1 c8
        refine j_iload_n o dX12_cure_61 rfl ?_
        rw [hE]
        exact j_iret o dX12_cure_62 ⟨_, rfl, rfl, rfl, h⟩
      · replace h := h.2 c8
        refine j_iload_n o dX12_cure_31 rfl ?_
        refine j_iconst o (v := (-1)) dX12_cure_32 rfl ?_
        replace h := h (fun (x9 : Int32) => J X P (upM M 1 0 0) N 0 0 E 4 55 [(0, .ref (P.1 1)), (1, .int a1), (2, .int x9), (3, .int x6)] []) (by
          intro x9 h
          refine j_iinc o (v := x6 + 1) [(3, .int (x6 + 1)), (0, .ref (P.1 1)), (1, .int a1), (2, .int x9)] dX12_cure_55 rfl rfl (by decide) rfl ?_
          refine j_goto o (tgt := 19) dX12_cure_58 (by decide) ?_
          exact j_pick [1, 2, 3, 0] rfl h)
        replace h := h (J X P (upM M 1 0 0) N 0 0 E 4 44 [(0, .ref (P.1 1)), (1, .int a1), (2, .int x5), (3, .int x6)] []) (by
          intro h
          refine j_aload_n o dX12_cure_44 rfl ?_
          refine j_iload_n o dX12_cure_45 rfl ?_
          refine j_iload_n o dX12_cure_46 rfl ?_
          refine j_callVi (g := 1) (ci := 12) o (c_X12_againstWithout l P a1 x6 (upM M 1 0 0) N _ h) dX12_cure_47 jc_X12_378 jn_X12_againstWithout rfl rfl rfl (fun _ => rfl) rfl rfl (fun r10 Mz11 Nz12 h => ?_)
          obtain ⟨rfl, rfl, h⟩ := h
          refine j_if_ne o (tgt := 55) dX12_cure_50 (by decide) (fun c13 => ?_) (fun c13 => ?_)
          · replace h := h.1 c13
            exact j_pick [0, 1, 2, 3] rfl h
          · replace h := h.2 c13
            refine j_iload_n o dX12_cure_53 rfl ?_
            refine j_istore_n o [(2, .int x6), (0, .ref (P.1 1)), (1, .int a1), (3, .int x6)] dX12_cure_54 (by decide) rfl ?_
            exact j_pick [1, 2, 0, 3] rfl h)
        refine j_icmp_eq o (tgt := 44) dX12_cure_33 (by decide) (fun c14 => ?_) (fun c14 => ?_)
        · replace h := h.1 c14
          exact j_pick [0, 1, 2, 3] rfl h
        · replace h := h.2 c14
          refine j_iload_n o dX12_cure_36 rfl ?_
          refine j_iload_n o dX12_cure_37 rfl ?_
          refine j_callSi o (c_X12_isBefore l P x6 x5 (upM M 1 0 0) N _ h) dX12_cure_38 jc_X12_252 jn_X12_isBefore rfl rfl rfl rfl (fun r15 Mz16 Nz17 h => ?_)
          obtain ⟨rfl, rfl, h⟩ := h
          refine j_if_eq o (tgt := 55) dX12_cure_41 (by decide) (fun c18 => ?_) (fun c18 => ?_)
          · replace h := h.1 c18
            exact j_pick [0, 1, 2, 3] rfl h
          · replace h := h.2 c18
            exact j_pick [0, 1, 2, 3] rfl h)
    exact j_pick [2, 3, 1, 0] rfl h
  · replace h := h.2 c4
    refine j_iconst o (v := (-1)) dX12_cure_13 rfl ?_
    rw [hE]
    exact j_iret o dX12_cure_14 ⟨_, rfl, rfl, rfl, h⟩

abbrev rm_X12_burdenOf : Room := { frames := 2, cells := 0, slots := 0, locals := 45 }
def w_X12_burdenOf (P : jP) (a1 : Int32) (a2 : Int32) (M : jM) (Q : Int32 → Prop) : Prop :=
  ∀ R5 : Int32 → Int32 → Prop, (∀ (x1 : Int32) (x2 : Int32), (
   ((M 1 2) ≤ x2 → (
    Q x1
   )) ∧ (¬ (M 1 2) ≤ x2 → (
    w_X12_saidWithout P a1 ((1 : Int32) <<< (a2 &&& 31)) x2 M (fun r4 =>
    w_X12_saidOn P a1 x2 M (fun r7 =>
    ∀ R40 : Int32 → Prop, (∀ (x10 : Int32), (
     R5 (x1 + x10) (x2 + 1)
    ) → R40 x10) →
    (r4 = r7 → (
     R40 0
    )) ∧ (¬ r4 = r7 → (
     R40 1
    ))))
   ))
  ) → R5 x1 x2) →
  R5 0 0
set_option maxRecDepth 20000 in
theorem c_X12_burdenOf (l : Launch) (P : jP) (a1 : Int32) (a2 : Int32) (M : jM) (N : jN) (Q : Int32 → Prop) (h : w_X12_burdenOf P a1 a2 M Q) : jC l yX12_burdenOf cX12_burdenOf 5 (some .int) rm_X12_burdenOf LM [.ref (P.1 1), .int a1, .int a2] P M N (jqi P (fun r M' N' => M = M' ∧ N = N' ∧ Q r )) := by
  refine jC_of (by decide +kernel) [(0, .ref (P.1 1)), (1, .int a1), (2, .int a2)] (Nat.le_of_ble_eq_true rfl) rfl (fun X o => ?_)
  obtain ⟨E, hE⟩ : ∃ E, E = jE X rm_X12_burdenOf (jqi P (fun r M' N' => M = M' ∧ N = N' ∧ Q r )) := ⟨_, rfl⟩
  rw [← hE]
  unfold w_X12_burdenOf at h
  refine j_iconst o (v := 0) dX12_burdenOf_0 rfl ?_
  refine j_istore_n o [(3, .int 0), (0, .ref (P.1 1)), (1, .int a1), (2, .int a2)] dX12_burdenOf_1 (by decide) rfl ?_
  refine j_iconst o (v := 0) dX12_burdenOf_2 rfl ?_
  refine j_istore o [(4, .int 0), (3, .int 0), (0, .ref (P.1 1)), (1, .int a1), (2, .int a2)] dX12_burdenOf_3 (by decide) rfl ?_
  replace h := h (fun (x1 : Int32) (x2 : Int32) => J X P M N 0 0 E 5 5 [(0, .ref (P.1 1)), (1, .int a1), (2, .int a2), (3, .int x1), (4, .int x2)] []) (by
    intro x1 x2 h
    refine j_iload o dX12_burdenOf_5 rfl ?_
    refine j_aload_n o dX12_burdenOf_7 rfl ?_
    refine j_getf o (g := 1) (slot := 2) (ci := 12) (v := .int (M 1 2)) rfl jin_X12 (by decide) rfl jf_X12_111 (fun _ => rfl) rfl dX12_burdenOf_8 ?_
    refine j_icmp_ge o (tgt := 48) dX12_burdenOf_11 (by decide) (fun c3 => ?_) (fun c3 => ?_)
    · replace h := h.1 c3
      refine j_iload_n o dX12_burdenOf_48 rfl ?_
      rw [hE]
      exact j_iret o dX12_burdenOf_49 ⟨_, rfl, rfl, rfl, rfl, h⟩
    · replace h := h.2 c3
      refine j_iload_n o dX12_burdenOf_14 rfl ?_
      refine j_aload_n o dX12_burdenOf_15 rfl ?_
      refine j_iload_n o dX12_burdenOf_16 rfl ?_
      refine j_iconst o (v := 1) dX12_burdenOf_17 rfl ?_
      refine j_iload_n o dX12_burdenOf_18 rfl ?_
      refine j_ishl o dX12_burdenOf_19 ?_
      refine j_iload o dX12_burdenOf_20 rfl ?_
      refine j_callVi (g := 1) (ci := 12) o (c_X12_saidWithout l P a1 ((1 : Int32) <<< (a2 &&& 31)) x2 M N _ h) dX12_burdenOf_22 jc_X12_375 jn_X12_saidWithout rfl rfl rfl (fun _ => rfl) rfl rfl (fun r4 Mz5 Nz6 h => ?_)
      obtain ⟨rfl, rfl, h⟩ := h
      refine j_aload_n o dX12_burdenOf_25 rfl ?_
      refine j_iload_n o dX12_burdenOf_26 rfl ?_
      refine j_iload o dX12_burdenOf_27 rfl ?_
      refine j_callVi (g := 1) (ci := 12) o (c_X12_saidOn l P a1 x2 M N _ h) dX12_burdenOf_29 jc_X12_239 jn_X12_saidOn rfl rfl rfl (fun _ => rfl) rfl rfl (fun r7 Mz8 Nz9 h => ?_)
      obtain ⟨rfl, rfl, h⟩ := h
      replace h := h (fun (x10 : Int32) => J X P M N 0 0 E 5 40 [(0, .ref (P.1 1)), (1, .int a1), (2, .int a2), (4, .int x2)] [.int x10, .int x1]) (by
        intro x10 h
        refine j_iadd o dX12_burdenOf_40 ?_
        refine j_istore_n o [(3, .int (x1 + x10)), (0, .ref (P.1 1)), (1, .int a1), (2, .int a2), (4, .int x2)] dX12_burdenOf_41 (by decide) rfl ?_
        refine j_iinc o (v := x2 + 1) [(4, .int (x2 + 1)), (3, .int (x1 + x10)), (0, .ref (P.1 1)), (1, .int a1), (2, .int a2)] dX12_burdenOf_42 rfl rfl (by decide) rfl ?_
        refine j_goto o (tgt := 5) dX12_burdenOf_45 (by decide) ?_
        exact j_pick [2, 3, 4, 1, 0] rfl h)
      refine j_icmp_eq o (tgt := 39) dX12_burdenOf_32 (by decide) (fun c11 => ?_) (fun c11 => ?_)
      · replace h := h.1 c11
        refine j_iconst o (v := 0) dX12_burdenOf_39 rfl ?_
        exact j_pick [0, 1, 2, 4] rfl h
      · replace h := h.2 c11
        refine j_iconst o (v := 1) dX12_burdenOf_35 rfl ?_
        refine j_goto o (tgt := 40) dX12_burdenOf_36 (by decide) ?_
        exact j_pick [0, 1, 2, 4] rfl h)
  exact j_pick [2, 3, 4, 1, 0] rfl h

abbrev rm_X12_burden : Room := { frames := 3, cells := 0, slots := 0, locals := 69 }
def w_X12_burden (P : jP) (a1 : Int32) (a2 : Int32) (M : jM) (Q : Int32 → jM → Prop) : Prop :=
  w_X12_isLaw P a1 (upM M 1 0 0) (fun r1 =>
  (r1 = 0 → (
   Q (-1) (upM M 1 0 0)
  )) ∧ (¬ r1 = 0 → (
   ∀ R36 : Prop, ((
    (a2 = (-1) → (
     ∀ R53 : Int32 → Int32 → Prop, (∀ (x6 : Int32) (x7 : Int32), (
      vp_in a1 (6) ∧
      (((upM M 1 0 0) 10 a1.toNatClampNeg) ≤ x7 → (
       Q x6 (upM M 1 0 0)
      )) ∧ (¬ ((upM M 1 0 0) 10 a1.toNatClampNeg) ≤ x7 → (
       w_X12_burdenOf P a1 x7 (upM M 1 0 0) (fun r10 =>
       ∀ R83 : Int32 → Prop, (∀ (x13 : Int32), (
        R53 (x6 ||| x13) (x7 + 1)
       ) → R83 x13) →
       (¬ r10 = 0 → (
        R83 0
       )) ∧ (r10 = 0 → (
        R83 ((1 : Int32) <<< (x7 &&& 31))
       )))
      ))
     ) → R53 x6 x7) →
     R53 0 0
    )) ∧ (¬ a2 = (-1) → (
     w_X12_burdenOf P a1 a2 (upM M 1 0 0) (fun r15 =>
     Q r15 (upM M 1 0 0))
    ))
   ) → R36) →
   (a2 = (-1) → (
    R36
   )) ∧ (¬ a2 = (-1) → (
    vp_in a1 (6) ∧
    w_X12_isIn P a2 0 (((upM M 1 0 0) 10 a1.toNatClampNeg) - 1) (fun r20 =>
    (¬ r20 = 0 → (
     R36
    )) ∧ (r20 = 0 → (
     Q (-1) (upM M 1 0 0)
    )))
   ))
  )))
set_option maxRecDepth 20000 in
theorem c_X12_burden (l : Launch) (P : jP) (a1 : Int32) (a2 : Int32) (M : jM) (N : jN) (Q : Int32 → jM → Prop) (h : w_X12_burden P a1 a2 M Q) : jC l yX12_burden cX12_burden 5 (some .int) rm_X12_burden LM [.ref (P.1 1), .int a1, .int a2] P M N (jqi P (fun r M' N' => N = N' ∧ Q r M' )) := by
  refine jC_of (by decide +kernel) [(0, .ref (P.1 1)), (1, .int a1), (2, .int a2)] (Nat.le_of_ble_eq_true rfl) rfl (fun X o => ?_)
  obtain ⟨E, hE⟩ : ∃ E, E = jE X rm_X12_burden (jqi P (fun r M' N' => N = N' ∧ Q r M' )) := ⟨_, rfl⟩
  rw [← hE]
  unfold w_X12_burden at h
  refine j_aload_n o dX12_burden_0 rfl ?_
  refine j_iconst o (v := 0) dX12_burden_1 rfl ?_
  refine j_putf o (M1 := upM M 1 0 0) (N1 := N) (g := 1) (slot := 0) (ci := 12) (ty := .int) rfl jin_X12 tyX12_ok nmX12 (by decide) rfl rfl jf_X12_114 (by decide +kernel) rfl rfl (Nat.le_of_ble_eq_true rfl) (fun _ => rfl) (fun _ => rfl) (fun _ hj => upM_ne _ _ _ hj) (fun _ _ => rfl) dX12_burden_2 ?_
  refine j_aload_n o dX12_burden_5 rfl ?_
  refine j_iload_n o dX12_burden_6 rfl ?_
  refine j_callVi (g := 1) (ci := 12) o (c_X12_isLaw l P a1 (upM M 1 0 0) N _ h) dX12_burden_7 jc_X12_233 jn_X12_isLaw rfl rfl rfl (fun _ => rfl) rfl rfl (fun r1 Mz2 Nz3 h => ?_)
  obtain ⟨rfl, rfl, h⟩ := h
  refine j_if_eq o (tgt := 34) dX12_burden_10 (by decide) (fun c4 => ?_) (fun c4 => ?_)
  · replace h := h.1 c4
    refine j_iconst o (v := (-1)) dX12_burden_34 rfl ?_
    rw [hE]
    exact j_iret o dX12_burden_35 ⟨_, rfl, rfl, rfl, h⟩
  · replace h := h.2 c4
    refine j_iload_n o dX12_burden_13 rfl ?_
    refine j_iconst o (v := (-1)) dX12_burden_14 rfl ?_
    replace h := h (J X P (upM M 1 0 0) N 0 0 E 5 36 [(0, .ref (P.1 1)), (1, .int a1), (2, .int a2)] []) (by
      intro h
      refine j_iload_n o dX12_burden_36 rfl ?_
      refine j_iconst o (v := (-1)) dX12_burden_37 rfl ?_
      refine j_icmp_eq o (tgt := 48) dX12_burden_38 (by decide) (fun c5 => ?_) (fun c5 => ?_)
      · replace h := h.1 c5
        refine j_iconst o (v := 0) dX12_burden_48 rfl ?_
        refine j_istore_n o [(3, .int 0), (0, .ref (P.1 1)), (1, .int a1), (2, .int a2)] dX12_burden_49 (by decide) rfl ?_
        refine j_iconst o (v := 0) dX12_burden_50 rfl ?_
        refine j_istore o [(4, .int 0), (3, .int 0), (0, .ref (P.1 1)), (1, .int a1), (2, .int a2)] dX12_burden_51 (by decide) rfl ?_
        replace h := h (fun (x6 : Int32) (x7 : Int32) => J X P (upM M 1 0 0) N 0 0 E 5 53 [(0, .ref (P.1 1)), (1, .int a1), (3, .int x6), (4, .int x7)] []) (by
          intro x6 x7 h
          refine j_iload o dX12_burden_53 rfl ?_
          refine j_aload_n o dX12_burden_55 rfl ?_
          refine j_getf o (g := 1) (slot := 19) (ci := 12) (v := .ref (P.1 10)) rfl jin_X12 (by decide) rfl jf_X12_35 (fun _ => rfl) rfl dX12_burden_56 ?_
          refine j_iload_n o dX12_burden_59 rfl ?_
          obtain ⟨hb8, h⟩ := h
          refine j_iald o (g := 10) (fun _ => rfl) hb8 dX12_burden_60 ?_
          refine j_icmp_ge o (tgt := 91) dX12_burden_61 (by decide) (fun c9 => ?_) (fun c9 => ?_)
          · replace h := h.1 c9
            refine j_iload_n o dX12_burden_91 rfl ?_
            rw [hE]
            exact j_iret o dX12_burden_92 ⟨_, rfl, rfl, rfl, h⟩
          · replace h := h.2 c9
            refine j_iload_n o dX12_burden_64 rfl ?_
            refine j_aload_n o dX12_burden_65 rfl ?_
            refine j_iload_n o dX12_burden_66 rfl ?_
            refine j_iload o dX12_burden_67 rfl ?_
            refine j_callVi (g := 1) (ci := 12) o (c_X12_burdenOf l P a1 x7 (upM M 1 0 0) N _ h) dX12_burden_69 jc_X12_381 jn_X12_burdenOf rfl rfl rfl (fun _ => rfl) rfl rfl (fun r10 Mz11 Nz12 h => ?_)
            obtain ⟨rfl, rfl, h⟩ := h
            replace h := h (fun (x13 : Int32) => J X P (upM M 1 0 0) N 0 0 E 5 83 [(0, .ref (P.1 1)), (1, .int a1), (4, .int x7)] [.int x13, .int x6]) (by
              intro x13 h
              refine j_ior o dX12_burden_83 ?_
              refine j_istore_n o [(3, .int (x6 ||| x13)), (0, .ref (P.1 1)), (1, .int a1), (4, .int x7)] dX12_burden_84 (by decide) rfl ?_
              refine j_iinc o (v := x7 + 1) [(4, .int (x7 + 1)), (3, .int (x6 ||| x13)), (0, .ref (P.1 1)), (1, .int a1)] dX12_burden_85 rfl rfl (by decide) rfl ?_
              refine j_goto o (tgt := 53) dX12_burden_88 (by decide) ?_
              exact j_pick [2, 3, 1, 0] rfl h)
            refine j_if_ne o (tgt := 82) dX12_burden_72 (by decide) (fun c14 => ?_) (fun c14 => ?_)
            · replace h := h.1 c14
              refine j_iconst o (v := 0) dX12_burden_82 rfl ?_
              exact j_pick [0, 1, 3] rfl h
            · replace h := h.2 c14
              refine j_iconst o (v := 1) dX12_burden_75 rfl ?_
              refine j_iload o dX12_burden_76 rfl ?_
              refine j_ishl o dX12_burden_78 ?_
              refine j_goto o (tgt := 83) dX12_burden_79 (by decide) ?_
              exact j_pick [0, 1, 3] rfl h)
        exact j_pick [2, 3, 1, 0] rfl h
      · replace h := h.2 c5
        refine j_aload_n o dX12_burden_41 rfl ?_
        refine j_iload_n o dX12_burden_42 rfl ?_
        refine j_iload_n o dX12_burden_43 rfl ?_
        refine j_callVi (g := 1) (ci := 12) o (c_X12_burdenOf l P a1 a2 (upM M 1 0 0) N _ h) dX12_burden_44 jc_X12_381 jn_X12_burdenOf rfl rfl rfl (fun _ => rfl) rfl rfl (fun r15 Mz16 Nz17 h => ?_)
        obtain ⟨rfl, rfl, h⟩ := h
        rw [hE]
        exact j_iret o dX12_burden_47 ⟨_, rfl, rfl, rfl, h⟩)
    refine j_icmp_eq o (tgt := 36) dX12_burden_15 (by decide) (fun c18 => ?_) (fun c18 => ?_)
    · replace h := h.1 c18
      exact j_pick [0, 1, 2] rfl h
    · replace h := h.2 c18
      refine j_iload_n o dX12_burden_18 rfl ?_
      refine j_iconst o (v := 0) dX12_burden_19 rfl ?_
      refine j_aload_n o dX12_burden_20 rfl ?_
      refine j_getf o (g := 1) (slot := 19) (ci := 12) (v := .ref (P.1 10)) rfl jin_X12 (by decide) rfl jf_X12_35 (fun _ => rfl) rfl dX12_burden_21 ?_
      refine j_iload_n o dX12_burden_24 rfl ?_
      obtain ⟨hb19, h⟩ := h
      refine j_iald o (g := 10) (fun _ => rfl) hb19 dX12_burden_25 ?_
      refine j_iconst o (v := 1) dX12_burden_26 rfl ?_
      refine j_isub o dX12_burden_27 ?_
      refine j_callSi o (c_X12_isIn l P a2 0 (((upM M 1 0 0) 10 a1.toNatClampNeg) - 1) (upM M 1 0 0) N _ h) dX12_burden_28 jc_X12_209 jn_X12_isIn rfl rfl rfl rfl (fun r20 Mz21 Nz22 h => ?_)
      obtain ⟨rfl, rfl, h⟩ := h
      refine j_if_ne o (tgt := 36) dX12_burden_31 (by decide) (fun c23 => ?_) (fun c23 => ?_)
      · replace h := h.1 c23
        exact j_pick [0, 1, 2] rfl h
      · replace h := h.2 c23
        refine j_iconst o (v := (-1)) dX12_burden_34 rfl ?_
        rw [hE]
        exact j_iret o dX12_burden_35 ⟨_, rfl, rfl, rfl, h⟩

abbrev rm_X12_casesOf : Room := { frames := 2, cells := 0, slots := 0, locals := 45 }
def w_X12_casesOf (P : jP) (a1 : Int32) (a2 : Int32) (M : jM) (Q : Int32 → Prop) : Prop :=
  ∀ R5 : Int32 → Int32 → Prop, (∀ (x1 : Int32) (x2 : Int32), (
   ((M 1 2) ≤ x2 → (
    Q x1
   )) ∧ (¬ (M 1 2) ≤ x2 → (
    w_X12_answersOf P a1 x2 M (fun r4 =>
    ∀ R31 : Int32 → Prop, (∀ (x7 : Int32), (
     R5 (x1 + x7) (x2 + 1)
    ) → R31 x7) →
    (¬ r4 = a2 → (
     R31 0
    )) ∧ (r4 = a2 → (
     R31 1
    )))
   ))
  ) → R5 x1 x2) →
  R5 0 0
set_option maxRecDepth 20000 in
theorem c_X12_casesOf (l : Launch) (P : jP) (a1 : Int32) (a2 : Int32) (M : jM) (N : jN) (Q : Int32 → Prop) (h : w_X12_casesOf P a1 a2 M Q) : jC l yX12_casesOf cX12_casesOf 5 (some .int) rm_X12_casesOf LM [.ref (P.1 1), .int a1, .int a2] P M N (jqi P (fun r M' N' => M = M' ∧ N = N' ∧ Q r )) := by
  refine jC_of (by decide +kernel) [(0, .ref (P.1 1)), (1, .int a1), (2, .int a2)] (Nat.le_of_ble_eq_true rfl) rfl (fun X o => ?_)
  obtain ⟨E, hE⟩ : ∃ E, E = jE X rm_X12_casesOf (jqi P (fun r M' N' => M = M' ∧ N = N' ∧ Q r )) := ⟨_, rfl⟩
  rw [← hE]
  unfold w_X12_casesOf at h
  refine j_iconst o (v := 0) dX12_casesOf_0 rfl ?_
  refine j_istore_n o [(3, .int 0), (0, .ref (P.1 1)), (1, .int a1), (2, .int a2)] dX12_casesOf_1 (by decide) rfl ?_
  refine j_iconst o (v := 0) dX12_casesOf_2 rfl ?_
  refine j_istore o [(4, .int 0), (3, .int 0), (0, .ref (P.1 1)), (1, .int a1), (2, .int a2)] dX12_casesOf_3 (by decide) rfl ?_
  replace h := h (fun (x1 : Int32) (x2 : Int32) => J X P M N 0 0 E 5 5 [(0, .ref (P.1 1)), (1, .int a1), (2, .int a2), (3, .int x1), (4, .int x2)] []) (by
    intro x1 x2 h
    refine j_iload o dX12_casesOf_5 rfl ?_
    refine j_aload_n o dX12_casesOf_7 rfl ?_
    refine j_getf o (g := 1) (slot := 2) (ci := 12) (v := .int (M 1 2)) rfl jin_X12 (by decide) rfl jf_X12_111 (fun _ => rfl) rfl dX12_casesOf_8 ?_
    refine j_icmp_ge o (tgt := 39) dX12_casesOf_11 (by decide) (fun c3 => ?_) (fun c3 => ?_)
    · replace h := h.1 c3
      refine j_iload_n o dX12_casesOf_39 rfl ?_
      rw [hE]
      exact j_iret o dX12_casesOf_40 ⟨_, rfl, rfl, rfl, rfl, h⟩
    · replace h := h.2 c3
      refine j_iload_n o dX12_casesOf_14 rfl ?_
      refine j_aload_n o dX12_casesOf_15 rfl ?_
      refine j_iload_n o dX12_casesOf_16 rfl ?_
      refine j_iload o dX12_casesOf_17 rfl ?_
      refine j_callVi (g := 1) (ci := 12) o (c_X12_answersOf l P a1 x2 M N _ h) dX12_casesOf_19 jc_X12_327 jn_X12_answersOf rfl rfl rfl (fun _ => rfl) rfl rfl (fun r4 Mz5 Nz6 h => ?_)
      obtain ⟨rfl, rfl, h⟩ := h
      refine j_iload_n o dX12_casesOf_22 rfl ?_
      replace h := h (fun (x7 : Int32) => J X P M N 0 0 E 5 31 [(0, .ref (P.1 1)), (1, .int a1), (2, .int a2), (4, .int x2)] [.int x7, .int x1]) (by
        intro x7 h
        refine j_iadd o dX12_casesOf_31 ?_
        refine j_istore_n o [(3, .int (x1 + x7)), (0, .ref (P.1 1)), (1, .int a1), (2, .int a2), (4, .int x2)] dX12_casesOf_32 (by decide) rfl ?_
        refine j_iinc o (v := x2 + 1) [(4, .int (x2 + 1)), (3, .int (x1 + x7)), (0, .ref (P.1 1)), (1, .int a1), (2, .int a2)] dX12_casesOf_33 rfl rfl (by decide) rfl ?_
        refine j_goto o (tgt := 5) dX12_casesOf_36 (by decide) ?_
        exact j_pick [2, 3, 4, 1, 0] rfl h)
      refine j_icmp_ne o (tgt := 30) dX12_casesOf_23 (by decide) (fun c8 => ?_) (fun c8 => ?_)
      · replace h := h.1 c8
        refine j_iconst o (v := 0) dX12_casesOf_30 rfl ?_
        exact j_pick [0, 1, 2, 4] rfl h
      · replace h := h.2 c8
        refine j_iconst o (v := 1) dX12_casesOf_26 rfl ?_
        refine j_goto o (tgt := 31) dX12_casesOf_27 (by decide) ?_
        exact j_pick [0, 1, 2, 4] rfl h)
  exact j_pick [2, 3, 4, 1, 0] rfl h

abbrev rm_X12_toldBy : Room := { frames := 2, cells := 0, slots := 0, locals := 45 }
def w_X12_toldBy (P : jP) (a1 : Int32) (a2 : Int32) (a3 : Int32) (M : jM) (Q : Int32 → Prop) : Prop :=
  ∀ R7 : Int32 → Int32 → Prop, (∀ (x1 : Int32) (x2 : Int32), (
   ((M 1 2) ≤ x2 → (
    Q x1
   )) ∧ (¬ (M 1 2) ≤ x2 → (
    w_X12_answersOf P a2 x2 M (fun r4 =>
    ∀ R61 : Int32 → Prop, (∀ (x7 : Int32), (
     R7 x7 (x2 + 1)
    ) → R61 x7) →
    (r4 = a3 → (
     ∀ R52 : Prop, ((
      w_X12_saidOn P a1 x2 M (fun r9 =>
      R61 r9)
     ) → R52) →
     (x1 = (-2) → (
      R52
     )) ∧ (¬ x1 = (-2) → (
      w_X12_saidOn P a1 x2 M (fun r13 =>
      (x1 = r13 → (
       R52
      )) ∧ (¬ x1 = r13 → (
       Q (-2)
      )))
     ))
    )) ∧ (¬ r4 = a3 → (
     R61 x1
    )))
   ))
  ) → R7 x1 x2) →
  R7 (-2) 0
set_option maxRecDepth 20000 in
theorem c_X12_toldBy (l : Launch) (P : jP) (a1 : Int32) (a2 : Int32) (a3 : Int32) (M : jM) (N : jN) (Q : Int32 → Prop) (h : w_X12_toldBy P a1 a2 a3 M Q) : jC l yX12_toldBy cX12_toldBy 6 (some .int) rm_X12_toldBy LM [.ref (P.1 1), .int a1, .int a2, .int a3] P M N (jqi P (fun r M' N' => M = M' ∧ N = N' ∧ Q r )) := by
  refine jC_of (by decide +kernel) [(0, .ref (P.1 1)), (1, .int a1), (2, .int a2), (3, .int a3)] (Nat.le_of_ble_eq_true rfl) rfl (fun X o => ?_)
  obtain ⟨E, hE⟩ : ∃ E, E = jE X rm_X12_toldBy (jqi P (fun r M' N' => M = M' ∧ N = N' ∧ Q r )) := ⟨_, rfl⟩
  rw [← hE]
  unfold w_X12_toldBy at h
  refine j_bipush o (v := (-2)) dX12_toldBy_0 rfl ?_
  refine j_istore o [(4, .int (-2)), (0, .ref (P.1 1)), (1, .int a1), (2, .int a2), (3, .int a3)] dX12_toldBy_2 (by decide) rfl ?_
  refine j_iconst o (v := 0) dX12_toldBy_4 rfl ?_
  refine j_istore o [(5, .int 0), (4, .int (-2)), (0, .ref (P.1 1)), (1, .int a1), (2, .int a2), (3, .int a3)] dX12_toldBy_5 (by decide) rfl ?_
  replace h := h (fun (x1 : Int32) (x2 : Int32) => J X P M N 0 0 E 6 7 [(0, .ref (P.1 1)), (1, .int a1), (2, .int a2), (3, .int a3), (4, .int x1), (5, .int x2)] []) (by
    intro x1 x2 h
    refine j_iload o dX12_toldBy_7 rfl ?_
    refine j_aload_n o dX12_toldBy_9 rfl ?_
    refine j_getf o (g := 1) (slot := 2) (ci := 12) (v := .int (M 1 2)) rfl jin_X12 (by decide) rfl jf_X12_111 (fun _ => rfl) rfl dX12_toldBy_10 ?_
    refine j_icmp_ge o (tgt := 67) dX12_toldBy_13 (by decide) (fun c3 => ?_) (fun c3 => ?_)
    · replace h := h.1 c3
      refine j_iload o dX12_toldBy_67 rfl ?_
      rw [hE]
      exact j_iret o dX12_toldBy_69 ⟨_, rfl, rfl, rfl, rfl, h⟩
    · replace h := h.2 c3
      refine j_aload_n o dX12_toldBy_16 rfl ?_
      refine j_iload_n o dX12_toldBy_17 rfl ?_
      refine j_iload o dX12_toldBy_18 rfl ?_
      refine j_callVi (g := 1) (ci := 12) o (c_X12_answersOf l P a2 x2 M N _ h) dX12_toldBy_20 jc_X12_327 jn_X12_answersOf rfl rfl rfl (fun _ => rfl) rfl rfl (fun r4 Mz5 Nz6 h => ?_)
      obtain ⟨rfl, rfl, h⟩ := h
      refine j_iload_n o dX12_toldBy_23 rfl ?_
      replace h := h (fun (x7 : Int32) => J X P M N 0 0 E 6 61 [(0, .ref (P.1 1)), (1, .int a1), (2, .int a2), (3, .int a3), (4, .int x7), (5, .int x2)] []) (by
        intro x7 h
        refine j_iinc o (v := x2 + 1) [(5, .int (x2 + 1)), (0, .ref (P.1 1)), (1, .int a1), (2, .int a2), (3, .int a3), (4, .int x7)] dX12_toldBy_61 rfl rfl (by decide) rfl ?_
        refine j_goto o (tgt := 7) dX12_toldBy_64 (by decide) ?_
        exact j_pick [1, 2, 3, 4, 5, 0] rfl h)
      refine j_icmp_eq o (tgt := 30) dX12_toldBy_24 (by decide) (fun c8 => ?_) (fun c8 => ?_)
      · replace h := h.1 c8
        refine j_iload o dX12_toldBy_30 rfl ?_
        refine j_bipush o (v := (-2)) dX12_toldBy_32 rfl ?_
        replace h := h (J X P M N 0 0 E 6 52 [(0, .ref (P.1 1)), (1, .int a1), (2, .int a2), (3, .int a3), (5, .int x2)] []) (by
          intro h
          refine j_aload_n o dX12_toldBy_52 rfl ?_
          refine j_iload_n o dX12_toldBy_53 rfl ?_
          refine j_iload o dX12_toldBy_54 rfl ?_
          refine j_callVi (g := 1) (ci := 12) o (c_X12_saidOn l P a1 x2 M N _ h) dX12_toldBy_56 jc_X12_239 jn_X12_saidOn rfl rfl rfl (fun _ => rfl) rfl rfl (fun r9 Mz10 Nz11 h => ?_)
          obtain ⟨rfl, rfl, h⟩ := h
          refine j_istore o [(4, .int r9), (0, .ref (P.1 1)), (1, .int a1), (2, .int a2), (3, .int a3), (5, .int x2)] dX12_toldBy_59 (by decide) rfl ?_
          exact j_pick [1, 2, 3, 4, 0, 5] rfl h)
        refine j_icmp_eq o (tgt := 52) dX12_toldBy_34 (by decide) (fun c12 => ?_) (fun c12 => ?_)
        · replace h := h.1 c12
          exact j_pick [0, 1, 2, 3, 5] rfl h
        · replace h := h.2 c12
          refine j_iload o dX12_toldBy_37 rfl ?_
          refine j_aload_n o dX12_toldBy_39 rfl ?_
          refine j_iload_n o dX12_toldBy_40 rfl ?_
          refine j_iload o dX12_toldBy_41 rfl ?_
          refine j_callVi (g := 1) (ci := 12) o (c_X12_saidOn l P a1 x2 M N _ h) dX12_toldBy_43 jc_X12_239 jn_X12_saidOn rfl rfl rfl (fun _ => rfl) rfl rfl (fun r13 Mz14 Nz15 h => ?_)
          obtain ⟨rfl, rfl, h⟩ := h
          refine j_icmp_eq o (tgt := 52) dX12_toldBy_46 (by decide) (fun c16 => ?_) (fun c16 => ?_)
          · replace h := h.1 c16
            exact j_pick [0, 1, 2, 3, 5] rfl h
          · replace h := h.2 c16
            refine j_bipush o (v := (-2)) dX12_toldBy_49 rfl ?_
            rw [hE]
            exact j_iret o dX12_toldBy_51 ⟨_, rfl, rfl, rfl, rfl, h⟩
      · replace h := h.2 c8
        refine j_goto o (tgt := 61) dX12_toldBy_27 (by decide) ?_
        exact j_pick [0, 1, 2, 3, 4, 5] rfl h)
  exact j_pick [2, 3, 4, 5, 1, 0] rfl h

abbrev rm_X12_askNext : Room := { frames := 3, cells := 0, slots := 0, locals := 69 }
def w_X12_askNext (P : jP) (a1 : Int32) (a2 : Int32) (M : jM) (Q : Int32 → Prop) : Prop :=
  ∀ R8 : Int32 → Int32 → Int32 → Prop, (∀ (x1 : Int32) (x2 : Int32) (x3 : Int32), (
   ((M 1 26) ≤ x3 → (
    Q x1
   )) ∧ (¬ (M 1 26) ≤ x3 → (
    w_X12_has P a1 x3 (fun r5 =>
    ∀ R83 : Int32 → Int32 → Prop, (∀ (x8 : Int32) (x9 : Int32), (
     R8 x8 x9 (x3 + 1)
    ) → R83 x8 x9) →
    (r5 = 0 → (
     w_X12_casesOf P (a1 ||| ((1 : Int32) <<< (x3 &&& 31))) a2 M (fun r11 =>
     w_X12_casesOf P (a1 ||| ((1 : Int32) <<< (x3 &&& 31))) (a2 ||| ((1 : Int32) <<< (x3 &&& 31))) M (fun r14 =>
     ∀ R76 : Prop, ((
      R83 x3 (if r11 < r14 then r14 else r11)
     ) → R76) →
     (x1 = (-1) → (
      R76
     )) ∧ (¬ x1 = (-1) → (
      ((if r11 < r14 then r14 else r11) < x2 → (
       R76
      )) ∧ (¬ (if r11 < r14 then r14 else r11) < x2 → (
       R83 x1 x2
      ))
     ))))
    )) ∧ (¬ r5 = 0 → (
     R83 x1 x2
    )))
   ))
  ) → R8 x1 x2 x3) →
  R8 (-1) 0 0
set_option maxRecDepth 20000 in
theorem c_X12_askNext (l : Launch) (P : jP) (a1 : Int32) (a2 : Int32) (M : jM) (N : jN) (Q : Int32 → Prop) (h : w_X12_askNext P a1 a2 M Q) : jC l yX12_askNext cX12_askNext 7 (some .int) rm_X12_askNext LM [.ref (P.1 1), .int a1, .int a2] P M N (jqi P (fun r M' N' => M = M' ∧ N = N' ∧ Q r )) := by
  refine jC_of (by decide +kernel) [(0, .ref (P.1 1)), (1, .int a1), (2, .int a2)] (Nat.le_of_ble_eq_true rfl) rfl (fun X o => ?_)
  obtain ⟨E, hE⟩ : ∃ E, E = jE X rm_X12_askNext (jqi P (fun r M' N' => M = M' ∧ N = N' ∧ Q r )) := ⟨_, rfl⟩
  rw [← hE]
  unfold w_X12_askNext at h
  refine j_iconst o (v := (-1)) dX12_askNext_0 rfl ?_
  refine j_istore_n o [(3, .int (-1)), (0, .ref (P.1 1)), (1, .int a1), (2, .int a2)] dX12_askNext_1 (by decide) rfl ?_
  refine j_iconst o (v := 0) dX12_askNext_2 rfl ?_
  refine j_istore o [(4, .int 0), (3, .int (-1)), (0, .ref (P.1 1)), (1, .int a1), (2, .int a2)] dX12_askNext_3 (by decide) rfl ?_
  refine j_iconst o (v := 0) dX12_askNext_5 rfl ?_
  refine j_istore o [(5, .int 0), (4, .int 0), (3, .int (-1)), (0, .ref (P.1 1)), (1, .int a1), (2, .int a2)] dX12_askNext_6 (by decide) rfl ?_
  replace h := h (fun (x1 : Int32) (x2 : Int32) (x3 : Int32) => J X P M N 0 0 E 7 8 [(0, .ref (P.1 1)), (1, .int a1), (2, .int a2), (3, .int x1), (4, .int x2), (5, .int x3)] []) (by
    intro x1 x2 x3 h
    refine j_iload o dX12_askNext_8 rfl ?_
    refine j_aload_n o dX12_askNext_10 rfl ?_
    refine j_getf o (g := 1) (slot := 26) (ci := 12) (v := .int (M 1 26)) rfl jin_X12 (by decide) rfl jf_X12_219 (fun _ => rfl) rfl dX12_askNext_11 ?_
    refine j_icmp_ge o (tgt := 89) dX12_askNext_14 (by decide) (fun c4 => ?_) (fun c4 => ?_)
    · replace h := h.1 c4
      refine j_iload_n o dX12_askNext_89 rfl ?_
      rw [hE]
      exact j_iret o dX12_askNext_90 ⟨_, rfl, rfl, rfl, rfl, h⟩
    · replace h := h.2 c4
      refine j_iload_n o dX12_askNext_17 rfl ?_
      refine j_iload o dX12_askNext_18 rfl ?_
      refine j_callSi o (c_X12_has l P a1 x3 M N _ h) dX12_askNext_20 jc_X12_157 jn_X12_has rfl rfl rfl rfl (fun r5 Mz6 Nz7 h => ?_)
      obtain ⟨rfl, rfl, h⟩ := h
      replace h := h (fun (x8 : Int32) (x9 : Int32) => J X P M N 0 0 E 7 83 [(0, .ref (P.1 1)), (1, .int a1), (2, .int a2), (3, .int x8), (4, .int x9), (5, .int x3)] []) (by
        intro x8 x9 h
        refine j_iinc o (v := x3 + 1) [(5, .int (x3 + 1)), (0, .ref (P.1 1)), (1, .int a1), (2, .int a2), (3, .int x8), (4, .int x9)] dX12_askNext_83 rfl rfl (by decide) rfl ?_
        refine j_goto o (tgt := 8) dX12_askNext_86 (by decide) ?_
        exact j_pick [1, 2, 3, 4, 5, 0] rfl h)
      refine j_if_eq o (tgt := 29) dX12_askNext_23 (by decide) (fun c10 => ?_) (fun c10 => ?_)
      · replace h := h.1 c10
        refine j_aload_n o dX12_askNext_29 rfl ?_
        refine j_iload_n o dX12_askNext_30 rfl ?_
        refine j_iconst o (v := 1) dX12_askNext_31 rfl ?_
        refine j_iload o dX12_askNext_32 rfl ?_
        refine j_ishl o dX12_askNext_34 ?_
        refine j_ior o dX12_askNext_35 ?_
        refine j_iload_n o dX12_askNext_36 rfl ?_
        refine j_callVi (g := 1) (ci := 12) o (c_X12_casesOf l P (a1 ||| ((1 : Int32) <<< (x3 &&& 31))) a2 M N _ h) dX12_askNext_37 jc_X12_384 jn_X12_casesOf rfl rfl rfl (fun _ => rfl) rfl rfl (fun r11 Mz12 Nz13 h => ?_)
        obtain ⟨rfl, rfl, h⟩ := h
        refine j_aload_n o dX12_askNext_40 rfl ?_
        refine j_iload_n o dX12_askNext_41 rfl ?_
        refine j_iconst o (v := 1) dX12_askNext_42 rfl ?_
        refine j_iload o dX12_askNext_43 rfl ?_
        refine j_ishl o dX12_askNext_45 ?_
        refine j_ior o dX12_askNext_46 ?_
        refine j_iload_n o dX12_askNext_47 rfl ?_
        refine j_iconst o (v := 1) dX12_askNext_48 rfl ?_
        refine j_iload o dX12_askNext_49 rfl ?_
        refine j_ishl o dX12_askNext_51 ?_
        refine j_ior o dX12_askNext_52 ?_
        refine j_callVi (g := 1) (ci := 12) o (c_X12_casesOf l P (a1 ||| ((1 : Int32) <<< (x3 &&& 31))) (a2 ||| ((1 : Int32) <<< (x3 &&& 31))) M N _ h) dX12_askNext_53 jc_X12_384 jn_X12_casesOf rfl rfl rfl (fun _ => rfl) rfl rfl (fun r14 Mz15 Nz16 h => ?_)
        obtain ⟨rfl, rfl, h⟩ := h
        refine j_mmax o dX12_askNext_56 jc_X12_104 rfl ?_
        refine j_istore o [(6, .int (if r11 < r14 then r14 else r11)), (0, .ref (P.1 1)), (1, .int a1), (2, .int a2), (3, .int x1), (4, .int x2), (5, .int x3)] dX12_askNext_59 (by decide) rfl ?_
        refine j_iload_n o dX12_askNext_61 rfl ?_
        refine j_iconst o (v := (-1)) dX12_askNext_62 rfl ?_
        replace h := h (J X P M N 0 0 E 7 76 [(0, .ref (P.1 1)), (1, .int a1), (2, .int a2), (5, .int x3), (6, .int (if r11 < r14 then r14 else r11))] []) (by
          intro h
          refine j_iload o dX12_askNext_76 rfl ?_
          refine j_istore_n o [(3, .int x3), (0, .ref (P.1 1)), (1, .int a1), (2, .int a2), (5, .int x3), (6, .int (if r11 < r14 then r14 else r11))] dX12_askNext_78 (by decide) rfl ?_
          refine j_iload o dX12_askNext_79 rfl ?_
          refine j_istore o [(4, .int (if r11 < r14 then r14 else r11)), (3, .int x3), (0, .ref (P.1 1)), (1, .int a1), (2, .int a2), (5, .int x3), (6, .int (if r11 < r14 then r14 else r11))] dX12_askNext_81 (by decide) rfl ?_
          exact j_pick [2, 3, 4, 1, 0, 5] rfl h)
        refine j_icmp_eq o (tgt := 76) dX12_askNext_63 (by decide) (fun c17 => ?_) (fun c17 => ?_)
        · replace h := h.1 c17
          exact j_pick [1, 2, 3, 6, 0] rfl h
        · replace h := h.2 c17
          refine j_iload o dX12_askNext_66 rfl ?_
          refine j_iload o dX12_askNext_68 rfl ?_
          refine j_icmp_lt o (tgt := 76) dX12_askNext_70 (by decide) (fun c18 => ?_) (fun c18 => ?_)
          · replace h := h.1 c18
            exact j_pick [1, 2, 3, 6, 0] rfl h
          · replace h := h.2 c18
            refine j_goto o (tgt := 83) dX12_askNext_73 (by decide) ?_
            exact j_pick [1, 2, 3, 4, 5, 6] rfl h
      · replace h := h.2 c10
        refine j_goto o (tgt := 83) dX12_askNext_26 (by decide) ?_
        exact j_pick [0, 1, 2, 3, 4, 5] rfl h)
  exact j_pick [3, 4, 5, 2, 1, 0] rfl h

abbrev rm_X12_given : Room := { frames := 4, cells := 0, slots := 0, locals := 95 }
def w_X12_given (P : jP) (a1 : Int32) (a2 : Int32) (a3 : Int32) (a4 : Int32) (M : jM) (Q : Int32 → jM → Prop) : Prop :=
  w_X12_isLaw P a1 (upM M 1 0 0) (fun r1 =>
  (r1 = 0 → (
   Q (-2) (upM M 1 0 0)
  )) ∧ (¬ r1 = 0 → (
   (a2 < 0 → (
    Q (-2) (upM M 1 0 0)
   )) ∧ (¬ a2 < 0 → (
    (((1 : Int32) <<< (((upM M 1 0 0) 1 26) &&& 31)) ≤ a2 → (
     Q (-2) (upM M 1 0 0)
    )) ∧ (¬ ((1 : Int32) <<< (((upM M 1 0 0) 1 26) &&& 31)) ≤ a2 → (
     (a3 < 0 → (
      Q (-2) (upM M 1 0 0)
     )) ∧ (¬ a3 < 0 → (
      (¬ (a3 &&& (a2 ^^^ (-1))) = 0 → (
       Q (-2) (upM M 1 0 0)
      )) ∧ ((a3 &&& (a2 ^^^ (-1))) = 0 → (
       w_X12_isIn P a4 0 2 (fun r9 =>
       (¬ r9 = 0 → (
        (¬ a4 = 1 → (
         w_X12_toldBy P a1 a2 a3 (upM M 1 0 0) (fun r14 =>
         (¬ a4 = 0 → (
          (¬ r14 = (-2) → (
           Q (-1) (upM M 1 0 0)
          )) ∧ (r14 = (-2) → (
           w_X12_casesOf P a2 a3 (upM M 1 0 0) (fun r19 =>
           (¬ r19 = 0 → (
            w_X12_askNext P a2 a3 (upM M 1 0 0) (fun r23 =>
            Q r23 (upM M 1 0 0))
           )) ∧ (r19 = 0 → (
            Q (-1) (upM M 1 0 0)
           )))
          ))
         )) ∧ (a4 = 0 → (
          Q r14 (upM M 1 0 0)
         )))
        )) ∧ (a4 = 1 → (
         w_X12_casesOf P a2 a3 (upM M 1 0 0) (fun r26 =>
         Q r26 (upM M 1 0 0))
        ))
       )) ∧ (r9 = 0 → (
        Q (-2) (upM M 1 0 0)
       )))
      ))
     ))
    ))
   ))
  )))
set_option maxRecDepth 20000 in
theorem c_X12_given (l : Launch) (P : jP) (a1 : Int32) (a2 : Int32) (a3 : Int32) (a4 : Int32) (M : jM) (N : jN) (Q : Int32 → jM → Prop) (h : w_X12_given P a1 a2 a3 a4 M Q) : jC l yX12_given cX12_given 6 (some .int) rm_X12_given LM [.ref (P.1 1), .int a1, .int a2, .int a3, .int a4] P M N (jqi P (fun r M' N' => N = N' ∧ Q r M' )) := by
  refine jC_of (by decide +kernel) [(0, .ref (P.1 1)), (1, .int a1), (2, .int a2), (3, .int a3), (4, .int a4)] (Nat.le_of_ble_eq_true rfl) rfl (fun X o => ?_)
  obtain ⟨E, hE⟩ : ∃ E, E = jE X rm_X12_given (jqi P (fun r M' N' => N = N' ∧ Q r M' )) := ⟨_, rfl⟩
  rw [← hE]
  unfold w_X12_given at h
  refine j_aload_n o dX12_given_0 rfl ?_
  refine j_iconst o (v := 0) dX12_given_1 rfl ?_
  refine j_putf o (M1 := upM M 1 0 0) (N1 := N) (g := 1) (slot := 0) (ci := 12) (ty := .int) rfl jin_X12 tyX12_ok nmX12 (by decide) rfl rfl jf_X12_114 (by decide +kernel) rfl rfl (Nat.le_of_ble_eq_true rfl) (fun _ => rfl) (fun _ => rfl) (fun _ hj => upM_ne _ _ _ hj) (fun _ _ => rfl) dX12_given_2 ?_
  refine j_aload_n o dX12_given_5 rfl ?_
  refine j_iload_n o dX12_given_6 rfl ?_
  refine j_callVi (g := 1) (ci := 12) o (c_X12_isLaw l P a1 (upM M 1 0 0) N _ h) dX12_given_7 jc_X12_233 jn_X12_isLaw rfl rfl rfl (fun _ => rfl) rfl rfl (fun r1 Mz2 Nz3 h => ?_)
  obtain ⟨rfl, rfl, h⟩ := h
  refine j_if_eq o (tgt := 49) dX12_given_10 (by decide) (fun c4 => ?_) (fun c4 => ?_)
  · replace h := h.1 c4
    refine j_bipush o (v := (-2)) dX12_given_49 rfl ?_
    rw [hE]
    exact j_iret o dX12_given_51 ⟨_, rfl, rfl, rfl, h⟩
  · replace h := h.2 c4
    refine j_iload_n o dX12_given_13 rfl ?_
    refine j_if_lt o (tgt := 49) dX12_given_14 (by decide) (fun c5 => ?_) (fun c5 => ?_)
    · replace h := h.1 c5
      refine j_bipush o (v := (-2)) dX12_given_49 rfl ?_
      rw [hE]
      exact j_iret o dX12_given_51 ⟨_, rfl, rfl, rfl, h⟩
    · replace h := h.2 c5
      refine j_iload_n o dX12_given_17 rfl ?_
      refine j_iconst o (v := 1) dX12_given_18 rfl ?_
      refine j_aload_n o dX12_given_19 rfl ?_
      refine j_getf o (g := 1) (slot := 26) (ci := 12) (v := .int ((upM M 1 0 0) 1 26)) rfl jin_X12 (by decide) rfl jf_X12_219 (fun _ => rfl) rfl dX12_given_20 ?_
      refine j_ishl o dX12_given_23 ?_
      refine j_icmp_ge o (tgt := 49) dX12_given_24 (by decide) (fun c6 => ?_) (fun c6 => ?_)
      · replace h := h.1 c6
        refine j_bipush o (v := (-2)) dX12_given_49 rfl ?_
        rw [hE]
        exact j_iret o dX12_given_51 ⟨_, rfl, rfl, rfl, h⟩
      · replace h := h.2 c6
        refine j_iload_n o dX12_given_27 rfl ?_
        refine j_if_lt o (tgt := 49) dX12_given_28 (by decide) (fun c7 => ?_) (fun c7 => ?_)
        · replace h := h.1 c7
          refine j_bipush o (v := (-2)) dX12_given_49 rfl ?_
          rw [hE]
          exact j_iret o dX12_given_51 ⟨_, rfl, rfl, rfl, h⟩
        · replace h := h.2 c7
          refine j_iload_n o dX12_given_31 rfl ?_
          refine j_iload_n o dX12_given_32 rfl ?_
          refine j_iconst o (v := (-1)) dX12_given_33 rfl ?_
          refine j_ixor o dX12_given_34 ?_
          refine j_iand o dX12_given_35 ?_
          refine j_if_ne o (tgt := 49) dX12_given_36 (by decide) (fun c8 => ?_) (fun c8 => ?_)
          · replace h := h.1 c8
            refine j_bipush o (v := (-2)) dX12_given_49 rfl ?_
            rw [hE]
            exact j_iret o dX12_given_51 ⟨_, rfl, rfl, rfl, h⟩
          · replace h := h.2 c8
            refine j_iload o dX12_given_39 rfl ?_
            refine j_iconst o (v := 0) dX12_given_41 rfl ?_
            refine j_iconst o (v := 2) dX12_given_42 rfl ?_
            refine j_callSi o (c_X12_isIn l P a4 0 2 (upM M 1 0 0) N _ h) dX12_given_43 jc_X12_209 jn_X12_isIn rfl rfl rfl rfl (fun r9 Mz10 Nz11 h => ?_)
            obtain ⟨rfl, rfl, h⟩ := h
            refine j_if_ne o (tgt := 52) dX12_given_46 (by decide) (fun c12 => ?_) (fun c12 => ?_)
            · replace h := h.1 c12
              refine j_iload o dX12_given_52 rfl ?_
              refine j_iconst o (v := 1) dX12_given_54 rfl ?_
              refine j_icmp_ne o (tgt := 65) dX12_given_55 (by decide) (fun c13 => ?_) (fun c13 => ?_)
              · replace h := h.1 c13
                refine j_aload_n o dX12_given_65 rfl ?_
                refine j_iload_n o dX12_given_66 rfl ?_
                refine j_iload_n o dX12_given_67 rfl ?_
                refine j_iload_n o dX12_given_68 rfl ?_
                refine j_callVi (g := 1) (ci := 12) o (c_X12_toldBy l P a1 a2 a3 (upM M 1 0 0) N _ h) dX12_given_69 jc_X12_387 jn_X12_toldBy rfl rfl rfl (fun _ => rfl) rfl rfl (fun r14 Mz15 Nz16 h => ?_)
                obtain ⟨rfl, rfl, h⟩ := h
                refine j_istore o [(5, .int r14), (0, .ref (P.1 1)), (1, .int a1), (2, .int a2), (3, .int a3), (4, .int a4)] dX12_given_72 (by decide) rfl ?_
                refine j_iload o dX12_given_74 rfl ?_
                refine j_if_ne o (tgt := 82) dX12_given_76 (by decide) (fun c17 => ?_) (fun c17 => ?_)
                · replace h := h.1 c17
                  refine j_iload o dX12_given_82 rfl ?_
                  refine j_bipush o (v := (-2)) dX12_given_84 rfl ?_
                  refine j_icmp_ne o (tgt := 98) dX12_given_86 (by decide) (fun c18 => ?_) (fun c18 => ?_)
                  · replace h := h.1 c18
                    refine j_iconst o (v := (-1)) dX12_given_98 rfl ?_
                    refine j_goto o (tgt := 108) dX12_given_99 (by decide) ?_
                    rw [hE]
                    exact j_iret o dX12_given_108 ⟨_, rfl, rfl, rfl, h⟩
                  · replace h := h.2 c18
                    refine j_aload_n o dX12_given_89 rfl ?_
                    refine j_iload_n o dX12_given_90 rfl ?_
                    refine j_iload_n o dX12_given_91 rfl ?_
                    refine j_callVi (g := 1) (ci := 12) o (c_X12_casesOf l P a2 a3 (upM M 1 0 0) N _ h) dX12_given_92 jc_X12_384 jn_X12_casesOf rfl rfl rfl (fun _ => rfl) rfl rfl (fun r19 Mz20 Nz21 h => ?_)
                    obtain ⟨rfl, rfl, h⟩ := h
                    refine j_if_ne o (tgt := 102) dX12_given_95 (by decide) (fun c22 => ?_) (fun c22 => ?_)
                    · replace h := h.1 c22
                      refine j_aload_n o dX12_given_102 rfl ?_
                      refine j_iload_n o dX12_given_103 rfl ?_
                      refine j_iload_n o dX12_given_104 rfl ?_
                      refine j_callVi (g := 1) (ci := 12) o (c_X12_askNext l P a2 a3 (upM M 1 0 0) N _ h) dX12_given_105 jc_X12_390 jn_X12_askNext rfl rfl rfl (fun _ => rfl) rfl rfl (fun r23 Mz24 Nz25 h => ?_)
                      obtain ⟨rfl, rfl, h⟩ := h
                      rw [hE]
                      exact j_iret o dX12_given_108 ⟨_, rfl, rfl, rfl, h⟩
                    · replace h := h.2 c22
                      refine j_iconst o (v := (-1)) dX12_given_98 rfl ?_
                      refine j_goto o (tgt := 108) dX12_given_99 (by decide) ?_
                      rw [hE]
                      exact j_iret o dX12_given_108 ⟨_, rfl, rfl, rfl, h⟩
                · replace h := h.2 c17
                  refine j_iload o dX12_given_79 rfl ?_
                  rw [hE]
                  exact j_iret o dX12_given_81 ⟨_, rfl, rfl, rfl, h⟩
              · replace h := h.2 c13
                refine j_aload_n o dX12_given_58 rfl ?_
                refine j_iload_n o dX12_given_59 rfl ?_
                refine j_iload_n o dX12_given_60 rfl ?_
                refine j_callVi (g := 1) (ci := 12) o (c_X12_casesOf l P a2 a3 (upM M 1 0 0) N _ h) dX12_given_61 jc_X12_384 jn_X12_casesOf rfl rfl rfl (fun _ => rfl) rfl rfl (fun r26 Mz27 Nz28 h => ?_)
                obtain ⟨rfl, rfl, h⟩ := h
                rw [hE]
                exact j_iret o dX12_given_64 ⟨_, rfl, rfl, rfl, h⟩
            · replace h := h.2 c12
              refine j_bipush o (v := (-2)) dX12_given_49 rfl ?_
              rw [hE]
              exact j_iret o dX12_given_51 ⟨_, rfl, rfl, rfl, h⟩

abbrev rm_X12_office : Room := { frames := 1, cells := 0, slots := 0, locals := 22 }
def w_X12_office (P : jP) (a1 : Int32) (a2 : Int32) (a3 : Int32) (M : jM) (Q : Int32 → jM → Prop) : Prop :=
  w_X12_isLaw P a1 (upM M 1 0 0) (fun r1 =>
  (r1 = 0 → (
   Q (-1) (upM M 1 0 0)
  )) ∧ (¬ r1 = 0 → (
   w_X12_isFactNumber P a2 (upM M 1 0 0) (fun r5 =>
   (r5 = 0 → (
    Q (-1) (upM M 1 0 0)
   )) ∧ (¬ r5 = 0 → (
    w_X12_isFactNumber P a3 (upM M 1 0 0) (fun r9 =>
    (r9 = 0 → (
     Q (-1) (upM M 1 0 0)
    )) ∧ (¬ r9 = 0 → (
     (¬ a2 = a3 → (
      ∀ R42 : Int32 → Int32 → Prop, (∀ (x14 : Int32) (x15 : Int32), (
       (((upM M 1 0 0) 1 2) ≤ x15 → (
        Q x14 (upM M 1 0 0)
       )) ∧ (¬ ((upM M 1 0 0) 1 2) ≤ x15 → (
        w_X12_has P x15 a2 (fun r17 =>
        w_X12_has P x15 a3 (fun r20 =>
        ∀ R98 : Int32 → Prop, (∀ (x23 : Int32), (
         R42 (x14 + x23) (x15 + 1)
        ) → R98 x23) →
        (r17 = r20 → (
         R98 0
        )) ∧ (¬ r17 = r20 → (
         w_X12_saidOn P a1 x15 (upM M 1 0 0) (fun r25 =>
         w_X12_saidOn P a1 ((x15 ^^^ ((1 : Int32) <<< (a2 &&& 31))) ^^^ ((1 : Int32) <<< (a3 &&& 31))) (upM M 1 0 0) (fun r28 =>
         (r25 = r28 → (
          R98 0
         )) ∧ (¬ r25 = r28 → (
          R98 1
         ))))
        ))))
       ))
      ) → R42 x14 x15) →
      R42 0 0
     )) ∧ (a2 = a3 → (
      Q (-1) (upM M 1 0 0)
     ))
    )))
   )))
  )))
set_option maxRecDepth 20000 in
theorem c_X12_office (l : Launch) (P : jP) (a1 : Int32) (a2 : Int32) (a3 : Int32) (M : jM) (N : jN) (Q : Int32 → jM → Prop) (h : w_X12_office P a1 a2 a3 M Q) : jC l yX12_office cX12_office 6 (some .int) rm_X12_office LM [.ref (P.1 1), .int a1, .int a2, .int a3] P M N (jqi P (fun r M' N' => N = N' ∧ Q r M' )) := by
  refine jC_of (by decide +kernel) [(0, .ref (P.1 1)), (1, .int a1), (2, .int a2), (3, .int a3)] (Nat.le_of_ble_eq_true rfl) rfl (fun X o => ?_)
  obtain ⟨E, hE⟩ : ∃ E, E = jE X rm_X12_office (jqi P (fun r M' N' => N = N' ∧ Q r M' )) := ⟨_, rfl⟩
  rw [← hE]
  unfold w_X12_office at h
  refine j_aload_n o dX12_office_0 rfl ?_
  refine j_iconst o (v := 0) dX12_office_1 rfl ?_
  refine j_putf o (M1 := upM M 1 0 0) (N1 := N) (g := 1) (slot := 0) (ci := 12) (ty := .int) rfl jin_X12 tyX12_ok nmX12 (by decide) rfl rfl jf_X12_114 (by decide +kernel) rfl rfl (Nat.le_of_ble_eq_true rfl) (fun _ => rfl) (fun _ => rfl) (fun _ hj => upM_ne _ _ _ hj) (fun _ _ => rfl) dX12_office_2 ?_
  refine j_aload_n o dX12_office_5 rfl ?_
  refine j_iload_n o dX12_office_6 rfl ?_
  refine j_callVi (g := 1) (ci := 12) o (c_X12_isLaw l P a1 (upM M 1 0 0) N _ h) dX12_office_7 jc_X12_233 jn_X12_isLaw rfl rfl rfl (fun _ => rfl) rfl rfl (fun r1 Mz2 Nz3 h => ?_)
  obtain ⟨rfl, rfl, h⟩ := h
  refine j_if_eq o (tgt := 34) dX12_office_10 (by decide) (fun c4 => ?_) (fun c4 => ?_)
  · replace h := h.1 c4
    refine j_iconst o (v := (-1)) dX12_office_34 rfl ?_
    rw [hE]
    exact j_iret o dX12_office_35 ⟨_, rfl, rfl, rfl, h⟩
  · replace h := h.2 c4
    refine j_aload_n o dX12_office_13 rfl ?_
    refine j_iload_n o dX12_office_14 rfl ?_
    refine j_callVi (g := 1) (ci := 12) o (c_X12_isFactNumber l P a2 (upM M 1 0 0) N _ h) dX12_office_15 jc_X12_277 jn_X12_isFactNumber rfl rfl rfl (fun _ => rfl) rfl rfl (fun r5 Mz6 Nz7 h => ?_)
    obtain ⟨rfl, rfl, h⟩ := h
    refine j_if_eq o (tgt := 34) dX12_office_18 (by decide) (fun c8 => ?_) (fun c8 => ?_)
    · replace h := h.1 c8
      refine j_iconst o (v := (-1)) dX12_office_34 rfl ?_
      rw [hE]
      exact j_iret o dX12_office_35 ⟨_, rfl, rfl, rfl, h⟩
    · replace h := h.2 c8
      refine j_aload_n o dX12_office_21 rfl ?_
      refine j_iload_n o dX12_office_22 rfl ?_
      refine j_callVi (g := 1) (ci := 12) o (c_X12_isFactNumber l P a3 (upM M 1 0 0) N _ h) dX12_office_23 jc_X12_277 jn_X12_isFactNumber rfl rfl rfl (fun _ => rfl) rfl rfl (fun r9 Mz10 Nz11 h => ?_)
      obtain ⟨rfl, rfl, h⟩ := h
      refine j_if_eq o (tgt := 34) dX12_office_26 (by decide) (fun c12 => ?_) (fun c12 => ?_)
      · replace h := h.1 c12
        refine j_iconst o (v := (-1)) dX12_office_34 rfl ?_
        rw [hE]
        exact j_iret o dX12_office_35 ⟨_, rfl, rfl, rfl, h⟩
      · replace h := h.2 c12
        refine j_iload_n o dX12_office_29 rfl ?_
        refine j_iload_n o dX12_office_30 rfl ?_
        refine j_icmp_ne o (tgt := 36) dX12_office_31 (by decide) (fun c13 => ?_) (fun c13 => ?_)
        · replace h := h.1 c13
          refine j_iconst o (v := 0) dX12_office_36 rfl ?_
          refine j_istore o [(4, .int 0), (0, .ref (P.1 1)), (1, .int a1), (2, .int a2), (3, .int a3)] dX12_office_37 (by decide) rfl ?_
          refine j_iconst o (v := 0) dX12_office_39 rfl ?_
          refine j_istore o [(5, .int 0), (4, .int 0), (0, .ref (P.1 1)), (1, .int a1), (2, .int a2), (3, .int a3)] dX12_office_40 (by decide) rfl ?_
          replace h := h (fun (x14 : Int32) (x15 : Int32) => J X P (upM M 1 0 0) N 0 0 E 6 42 [(0, .ref (P.1 1)), (1, .int a1), (2, .int a2), (3, .int a3), (4, .int x14), (5, .int x15)] []) (by
            intro x14 x15 h
            refine j_iload o dX12_office_42 rfl ?_
            refine j_aload_n o dX12_office_44 rfl ?_
            refine j_getf o (g := 1) (slot := 2) (ci := 12) (v := .int ((upM M 1 0 0) 1 2)) rfl jin_X12 (by decide) rfl jf_X12_111 (fun _ => rfl) rfl dX12_office_45 ?_
            refine j_icmp_ge o (tgt := 107) dX12_office_48 (by decide) (fun c16 => ?_) (fun c16 => ?_)
            · replace h := h.1 c16
              refine j_iload o dX12_office_107 rfl ?_
              rw [hE]
              exact j_iret o dX12_office_109 ⟨_, rfl, rfl, rfl, h⟩
            · replace h := h.2 c16
              refine j_iload o dX12_office_51 rfl ?_
              refine j_iload o dX12_office_53 rfl ?_
              refine j_iload_n o dX12_office_55 rfl ?_
              refine j_callSi o (c_X12_has l P x15 a2 (upM M 1 0 0) N _ h) dX12_office_56 jc_X12_157 jn_X12_has rfl rfl rfl rfl (fun r17 Mz18 Nz19 h => ?_)
              obtain ⟨rfl, rfl, h⟩ := h
              refine j_iload o dX12_office_59 rfl ?_
              refine j_iload_n o dX12_office_61 rfl ?_
              refine j_callSi o (c_X12_has l P x15 a3 (upM M 1 0 0) N _ h) dX12_office_62 jc_X12_157 jn_X12_has rfl rfl rfl rfl (fun r20 Mz21 Nz22 h => ?_)
              obtain ⟨rfl, rfl, h⟩ := h
              replace h := h (fun (x23 : Int32) => J X P (upM M 1 0 0) N 0 0 E 6 98 [(0, .ref (P.1 1)), (1, .int a1), (2, .int a2), (3, .int a3), (5, .int x15)] [.int x23, .int x14]) (by
                intro x23 h
                refine j_iadd o dX12_office_98 ?_
                refine j_istore o [(4, .int (x14 + x23)), (0, .ref (P.1 1)), (1, .int a1), (2, .int a2), (3, .int a3), (5, .int x15)] dX12_office_99 (by decide) rfl ?_
                refine j_iinc o (v := x15 + 1) [(5, .int (x15 + 1)), (4, .int (x14 + x23)), (0, .ref (P.1 1)), (1, .int a1), (2, .int a2), (3, .int a3)] dX12_office_101 rfl rfl (by decide) rfl ?_
                refine j_goto o (tgt := 42) dX12_office_104 (by decide) ?_
                exact j_pick [2, 3, 4, 5, 1, 0] rfl h)
              refine j_icmp_eq o (tgt := 97) dX12_office_65 (by decide) (fun c24 => ?_) (fun c24 => ?_)
              · replace h := h.1 c24
                refine j_iconst o (v := 0) dX12_office_97 rfl ?_
                exact j_pick [0, 1, 2, 3, 5] rfl h
              · replace h := h.2 c24
                refine j_aload_n o dX12_office_68 rfl ?_
                refine j_iload_n o dX12_office_69 rfl ?_
                refine j_iload o dX12_office_70 rfl ?_
                refine j_callVi (g := 1) (ci := 12) o (c_X12_saidOn l P a1 x15 (upM M 1 0 0) N _ h) dX12_office_72 jc_X12_239 jn_X12_saidOn rfl rfl rfl (fun _ => rfl) rfl rfl (fun r25 Mz26 Nz27 h => ?_)
                obtain ⟨rfl, rfl, h⟩ := h
                refine j_aload_n o dX12_office_75 rfl ?_
                refine j_iload_n o dX12_office_76 rfl ?_
                refine j_iload o dX12_office_77 rfl ?_
                refine j_iconst o (v := 1) dX12_office_79 rfl ?_
                refine j_iload_n o dX12_office_80 rfl ?_
                refine j_ishl o dX12_office_81 ?_
                refine j_ixor o dX12_office_82 ?_
                refine j_iconst o (v := 1) dX12_office_83 rfl ?_
                refine j_iload_n o dX12_office_84 rfl ?_
                refine j_ishl o dX12_office_85 ?_
                refine j_ixor o dX12_office_86 ?_
                refine j_callVi (g := 1) (ci := 12) o (c_X12_saidOn l P a1 ((x15 ^^^ ((1 : Int32) <<< (a2 &&& 31))) ^^^ ((1 : Int32) <<< (a3 &&& 31))) (upM M 1 0 0) N _ h) dX12_office_87 jc_X12_239 jn_X12_saidOn rfl rfl rfl (fun _ => rfl) rfl rfl (fun r28 Mz29 Nz30 h => ?_)
                obtain ⟨rfl, rfl, h⟩ := h
                refine j_icmp_eq o (tgt := 97) dX12_office_90 (by decide) (fun c31 => ?_) (fun c31 => ?_)
                · replace h := h.1 c31
                  refine j_iconst o (v := 0) dX12_office_97 rfl ?_
                  exact j_pick [0, 1, 2, 3, 5] rfl h
                · replace h := h.2 c31
                  refine j_iconst o (v := 1) dX12_office_93 rfl ?_
                  refine j_goto o (tgt := 98) dX12_office_94 (by decide) ?_
                  exact j_pick [0, 1, 2, 3, 5] rfl h)
          exact j_pick [2, 3, 4, 5, 1, 0] rfl h
        · replace h := h.2 c13
          refine j_iconst o (v := (-1)) dX12_office_34 rfl ?_
          rw [hE]
          exact j_iret o dX12_office_35 ⟨_, rfl, rfl, rfl, h⟩

abbrev rm_X12_shareOfSort : Room := { frames := 1, cells := 0, slots := 0, locals := 21 }
def w_X12_shareOfSort (P : jP) (a1 : Int32) (a2 : Int32) (M : jM) (Q : Int64 → Prop) : Prop :=
  vp_in a1 (4) ∧
  ∀ R11 : Int64 → Int32 → Prop, (∀ (x2 : Int64) (x3 : Int32), (
   ((M 1 1) ≤ x3 → (
    Q x2
   )) ∧ (¬ (M 1 1) ≤ x3 → (
    w_X12_has P a2 x3 (fun r5 =>
    ∀ R62 : Int64 → Prop, (∀ (x8 : Int64), (
     R11 (x2 * x8) (x3 + 1)
    ) → R62 x8) →
    (r5 = 0 → (
     vp_in ((9 * a1) + x3) (36) ∧
     R62 ((10 - (M 18 ((9 * a1) + x3).toNatClampNeg)).toInt64)
    )) ∧ (¬ r5 = 0 → (
     vp_in ((9 * a1) + x3) (36) ∧
     R62 ((M 18 ((9 * a1) + x3).toNatClampNeg).toInt64)
    )))
   ))
  ) → R11 x2 x3) →
  R11 ((M 17 a1.toNatClampNeg).toInt64) 0
set_option maxRecDepth 20000 in
theorem c_X12_shareOfSort (l : Launch) (P : jP) (a1 : Int32) (a2 : Int32) (M : jM) (N : jN) (Q : Int64 → Prop) (h : w_X12_shareOfSort P a1 a2 M Q) : jC l yX12_shareOfSort cX12_shareOfSort 6 (some .long) rm_X12_shareOfSort LM [.ref (P.1 1), .int a1, .int a2] P M N (jql P (fun r M' N' => M = M' ∧ N = N' ∧ Q r )) := by
  refine jC_of (by decide +kernel) [(0, .ref (P.1 1)), (1, .int a1), (2, .int a2)] (Nat.le_of_ble_eq_true rfl) rfl (fun X o => ?_)
  obtain ⟨E, hE⟩ : ∃ E, E = jE X rm_X12_shareOfSort (jql P (fun r M' N' => M = M' ∧ N = N' ∧ Q r )) := ⟨_, rfl⟩
  rw [← hE]
  unfold w_X12_shareOfSort at h
  refine j_aload_n o dX12_shareOfSort_0 rfl ?_
  refine j_getf o (g := 1) (slot := 29) (ci := 12) (v := .ref (P.1 17)) rfl jin_X12 (by decide) rfl jf_X12_57 (fun _ => rfl) rfl dX12_shareOfSort_1 ?_
  refine j_iload_n o dX12_shareOfSort_4 rfl ?_
  obtain ⟨hb1, h⟩ := h
  refine j_iald o (g := 17) (fun _ => rfl) hb1 dX12_shareOfSort_5 ?_
  refine j_i2l o dX12_shareOfSort_6 ?_
  refine j_lstore_n o [(3, .long ((M 17 a1.toNatClampNeg).toInt64)), (0, .ref (P.1 1)), (1, .int a1), (2, .int a2)] dX12_shareOfSort_7 (by decide) rfl ?_
  refine j_iconst o (v := 0) dX12_shareOfSort_8 rfl ?_
  refine j_istore o [(5, .int 0), (3, .long ((M 17 a1.toNatClampNeg).toInt64)), (0, .ref (P.1 1)), (1, .int a1), (2, .int a2)] dX12_shareOfSort_9 (by decide) rfl ?_
  replace h := h (fun (x2 : Int64) (x3 : Int32) => J X P M N 0 0 E 6 11 [(0, .ref (P.1 1)), (1, .int a1), (2, .int a2), (3, .long x2), (5, .int x3)] []) (by
    intro x2 x3 h
    refine j_iload o dX12_shareOfSort_11 rfl ?_
    refine j_aload_n o dX12_shareOfSort_13 rfl ?_
    refine j_getf o (g := 1) (slot := 1) (ci := 12) (v := .int (M 1 1)) rfl jin_X12 (by decide) rfl jf_X12_107 (fun _ => rfl) rfl dX12_shareOfSort_14 ?_
    refine j_icmp_ge o (tgt := 70) dX12_shareOfSort_17 (by decide) (fun c4 => ?_) (fun c4 => ?_)
    · replace h := h.1 c4
      refine j_lload_n o dX12_shareOfSort_70 rfl ?_
      rw [hE]
      exact j_lret o dX12_shareOfSort_71 ⟨_, rfl, rfl, rfl, rfl, h⟩
    · replace h := h.2 c4
      refine j_lload_n o dX12_shareOfSort_20 rfl ?_
      refine j_iload_n o dX12_shareOfSort_21 rfl ?_
      refine j_iload o dX12_shareOfSort_22 rfl ?_
      refine j_callSi o (c_X12_has l P a2 x3 M N _ h) dX12_shareOfSort_24 jc_X12_157 jn_X12_has rfl rfl rfl rfl (fun r5 Mz6 Nz7 h => ?_)
      obtain ⟨rfl, rfl, h⟩ := h
      replace h := h (fun (x8 : Int64) => J X P M N 0 0 E 6 62 [(0, .ref (P.1 1)), (1, .int a1), (2, .int a2), (5, .int x3)] [.long x8, .long x2]) (by
        intro x8 h
        refine j_lmul o dX12_shareOfSort_62 ?_
        refine j_lstore_n o [(3, .long (x2 * x8)), (0, .ref (P.1 1)), (1, .int a1), (2, .int a2), (5, .int x3)] dX12_shareOfSort_63 (by decide) rfl ?_
        refine j_iinc o (v := x3 + 1) [(5, .int (x3 + 1)), (3, .long (x2 * x8)), (0, .ref (P.1 1)), (1, .int a1), (2, .int a2)] dX12_shareOfSort_64 rfl rfl (by decide) rfl ?_
        refine j_goto o (tgt := 11) dX12_shareOfSort_67 (by decide) ?_
        exact j_pick [2, 3, 4, 1, 0] rfl h)
      refine j_if_eq o (tgt := 46) dX12_shareOfSort_27 (by decide) (fun c9 => ?_) (fun c9 => ?_)
      · replace h := h.1 c9
        refine j_bipush o (v := 10) dX12_shareOfSort_46 rfl ?_
        refine j_aload_n o dX12_shareOfSort_48 rfl ?_
        refine j_getf o (g := 1) (slot := 30) (ci := 12) (v := .ref (P.1 18)) rfl jin_X12 (by decide) rfl jf_X12_60 (fun _ => rfl) rfl dX12_shareOfSort_49 ?_
        refine j_bipush o (v := 9) dX12_shareOfSort_52 rfl ?_
        refine j_iload_n o dX12_shareOfSort_54 rfl ?_
        refine j_imul o dX12_shareOfSort_55 ?_
        refine j_iload o dX12_shareOfSort_56 rfl ?_
        refine j_iadd o dX12_shareOfSort_58 ?_
        obtain ⟨hb10, h⟩ := h
        refine j_iald o (g := 18) (fun _ => rfl) hb10 dX12_shareOfSort_59 ?_
        refine j_isub o dX12_shareOfSort_60 ?_
        refine j_i2l o dX12_shareOfSort_61 ?_
        exact j_pick [0, 1, 2, 4] rfl h
      · replace h := h.2 c9
        refine j_aload_n o dX12_shareOfSort_30 rfl ?_
        refine j_getf o (g := 1) (slot := 30) (ci := 12) (v := .ref (P.1 18)) rfl jin_X12 (by decide) rfl jf_X12_60 (fun _ => rfl) rfl dX12_shareOfSort_31 ?_
        refine j_bipush o (v := 9) dX12_shareOfSort_34 rfl ?_
        refine j_iload_n o dX12_shareOfSort_36 rfl ?_
        refine j_imul o dX12_shareOfSort_37 ?_
        refine j_iload o dX12_shareOfSort_38 rfl ?_
        refine j_iadd o dX12_shareOfSort_40 ?_
        obtain ⟨hb11, h⟩ := h
        refine j_iald o (g := 18) (fun _ => rfl) hb11 dX12_shareOfSort_41 ?_
        refine j_i2l o dX12_shareOfSort_42 ?_
        refine j_goto o (tgt := 62) dX12_shareOfSort_43 (by decide) ?_
        exact j_pick [0, 1, 2, 4] rfl h)
  exact j_pick [2, 3, 4, 1, 0] rfl h

abbrev rm_X12_likely : Room := { frames := 2, cells := 0, slots := 0, locals := 49 }
def w_X12_likely (P : jP) (a1 : Int32) (a2 : Int32) (a3 : Int32) (M : jM) (Q : Int64 → jM → Prop) : Prop :=
  w_X12_isLaw P a1 (upM M 1 0 0) (fun r1 =>
  (r1 = 0 → (
   Q (-1) (upM M 1 0 0)
  )) ∧ (¬ r1 = 0 → (
   w_X12_isOutcome P a2 (fun r5 =>
   (r5 = 0 → (
    Q (-1) (upM M 1 0 0)
   )) ∧ (¬ r5 = 0 → (
    ∀ R43 : Prop, ((
     ∀ R49 : Int64 → Int32 → Prop, (∀ (x9 : Int64) (x10 : Int32), (
      (((upM M 1 0 0) 1 2) ≤ x10 → (
       Q x9 (upM M 1 0 0)
      )) ∧ (¬ ((upM M 1 0 0) 1 2) ≤ x10 → (
       w_X12_saidOn P a1 x10 (upM M 1 0 0) (fun r12 =>
       ∀ R101 : Int64 → Prop, (∀ (x15 : Int64), (
        R49 x15 (x10 + 1)
       ) → R101 x15) →
       (¬ r12 = a2 → (
        R101 x9
       )) ∧ (r12 = a2 → (
        ∀ R98 : Int64 → Prop, (∀ (x17 : Int64), (
         R101 (x9 + x17)
        ) → R98 x17) →
        (¬ a3 = (-1) → (
         w_X12_shareOfSort P a3 x10 (upM M 1 0 0) (fun r19 =>
         R98 r19)
        )) ∧ (a3 = (-1) → (
         w_X12_shareOf P (((upM M 1 0 0) 1 2) - 1) x10 (upM M 1 0 0) (fun r22 =>
         R98 r22)
        ))
       )))
      ))
     ) → R49 x9 x10) →
     R49 0 0
    ) → R43) →
    (a3 = (-1) → (
     R43
    )) ∧ (¬ a3 = (-1) → (
     w_X12_isIn P a3 0 (((upM M 1 0 0) 1 31) - 1) (fun r26 =>
     (¬ r26 = 0 → (
      R43
     )) ∧ (r26 = 0 → (
      Q (-1) (upM M 1 0 0)
     )))
    ))
   )))
  )))
set_option maxRecDepth 20000 in
theorem c_X12_likely (l : Launch) (P : jP) (a1 : Int32) (a2 : Int32) (a3 : Int32) (M : jM) (N : jN) (Q : Int64 → jM → Prop) (h : w_X12_likely P a1 a2 a3 M Q) : jC l yX12_likely cX12_likely 7 (some .long) rm_X12_likely LM [.ref (P.1 1), .int a1, .int a2, .int a3] P M N (jql P (fun r M' N' => N = N' ∧ Q r M' )) := by
  refine jC_of (by decide +kernel) [(0, .ref (P.1 1)), (1, .int a1), (2, .int a2), (3, .int a3)] (Nat.le_of_ble_eq_true rfl) rfl (fun X o => ?_)
  obtain ⟨E, hE⟩ : ∃ E, E = jE X rm_X12_likely (jql P (fun r M' N' => N = N' ∧ Q r M' )) := ⟨_, rfl⟩
  rw [← hE]
  unfold w_X12_likely at h
  refine j_aload_n o dX12_likely_0 rfl ?_
  refine j_iconst o (v := 0) dX12_likely_1 rfl ?_
  refine j_putf o (M1 := upM M 1 0 0) (N1 := N) (g := 1) (slot := 0) (ci := 12) (ty := .int) rfl jin_X12 tyX12_ok nmX12 (by decide) rfl rfl jf_X12_114 (by decide +kernel) rfl rfl (Nat.le_of_ble_eq_true rfl) (fun _ => rfl) (fun _ => rfl) (fun _ hj => upM_ne _ _ _ hj) (fun _ _ => rfl) dX12_likely_2 ?_
  refine j_aload_n o dX12_likely_5 rfl ?_
  refine j_iload_n o dX12_likely_6 rfl ?_
  refine j_callVi (g := 1) (ci := 12) o (c_X12_isLaw l P a1 (upM M 1 0 0) N _ h) dX12_likely_7 jc_X12_233 jn_X12_isLaw rfl rfl rfl (fun _ => rfl) rfl rfl (fun r1 Mz2 Nz3 h => ?_)
  obtain ⟨rfl, rfl, h⟩ := h
  refine j_if_eq o (tgt := 39) dX12_likely_10 (by decide) (fun c4 => ?_) (fun c4 => ?_)
  · replace h := h.1 c4
    refine j_ldc2 o jk_X12_289 dX12_likely_39 ?_
    rw [hE]
    exact j_lret o dX12_likely_42 ⟨_, rfl, rfl, rfl, h⟩
  · replace h := h.2 c4
    refine j_iload_n o dX12_likely_13 rfl ?_
    refine j_callSi o (c_X12_isOutcome l P a2 (upM M 1 0 0) N _ h) dX12_likely_14 jc_X12_372 jn_X12_isOutcome rfl rfl rfl rfl (fun r5 Mz6 Nz7 h => ?_)
    obtain ⟨rfl, rfl, h⟩ := h
    refine j_if_eq o (tgt := 39) dX12_likely_17 (by decide) (fun c8 => ?_) (fun c8 => ?_)
    · replace h := h.1 c8
      refine j_ldc2 o jk_X12_289 dX12_likely_39 ?_
      rw [hE]
      exact j_lret o dX12_likely_42 ⟨_, rfl, rfl, rfl, h⟩
    · replace h := h.2 c8
      refine j_iload_n o dX12_likely_20 rfl ?_
      refine j_iconst o (v := (-1)) dX12_likely_21 rfl ?_
      replace h := h (J X P (upM M 1 0 0) N 0 0 E 7 43 [(0, .ref (P.1 1)), (1, .int a1), (2, .int a2), (3, .int a3)] []) (by
        intro h
        refine j_lconst o (v := 0) dX12_likely_43 rfl ?_
        refine j_lstore o [(4, .long 0), (0, .ref (P.1 1)), (1, .int a1), (2, .int a2), (3, .int a3)] dX12_likely_44 (by decide) rfl ?_
        refine j_iconst o (v := 0) dX12_likely_46 rfl ?_
        refine j_istore o [(6, .int 0), (4, .long 0), (0, .ref (P.1 1)), (1, .int a1), (2, .int a2), (3, .int a3)] dX12_likely_47 (by decide) rfl ?_
        replace h := h (fun (x9 : Int64) (x10 : Int32) => J X P (upM M 1 0 0) N 0 0 E 7 49 [(0, .ref (P.1 1)), (1, .int a1), (2, .int a2), (3, .int a3), (4, .long x9), (6, .int x10)] []) (by
          intro x9 x10 h
          refine j_iload o dX12_likely_49 rfl ?_
          refine j_aload_n o dX12_likely_51 rfl ?_
          refine j_getf o (g := 1) (slot := 2) (ci := 12) (v := .int ((upM M 1 0 0) 1 2)) rfl jin_X12 (by decide) rfl jf_X12_111 (fun _ => rfl) rfl dX12_likely_52 ?_
          refine j_icmp_ge o (tgt := 107) dX12_likely_55 (by decide) (fun c11 => ?_) (fun c11 => ?_)
          · replace h := h.1 c11
            refine j_lload o dX12_likely_107 rfl ?_
            rw [hE]
            exact j_lret o dX12_likely_109 ⟨_, rfl, rfl, rfl, h⟩
          · replace h := h.2 c11
            refine j_aload_n o dX12_likely_58 rfl ?_
            refine j_iload_n o dX12_likely_59 rfl ?_
            refine j_iload o dX12_likely_60 rfl ?_
            refine j_callVi (g := 1) (ci := 12) o (c_X12_saidOn l P a1 x10 (upM M 1 0 0) N _ h) dX12_likely_62 jc_X12_239 jn_X12_saidOn rfl rfl rfl (fun _ => rfl) rfl rfl (fun r12 Mz13 Nz14 h => ?_)
            obtain ⟨rfl, rfl, h⟩ := h
            refine j_iload_n o dX12_likely_65 rfl ?_
            replace h := h (fun (x15 : Int64) => J X P (upM M 1 0 0) N 0 0 E 7 101 [(0, .ref (P.1 1)), (1, .int a1), (2, .int a2), (3, .int a3), (4, .long x15), (6, .int x10)] []) (by
              intro x15 h
              refine j_iinc o (v := x10 + 1) [(6, .int (x10 + 1)), (0, .ref (P.1 1)), (1, .int a1), (2, .int a2), (3, .int a3), (4, .long x15)] dX12_likely_101 rfl rfl (by decide) rfl ?_
              refine j_goto o (tgt := 49) dX12_likely_104 (by decide) ?_
              exact j_pick [1, 2, 3, 4, 5, 0] rfl h)
            refine j_icmp_ne o (tgt := 101) dX12_likely_66 (by decide) (fun c16 => ?_) (fun c16 => ?_)
            · replace h := h.1 c16
              exact j_pick [0, 1, 2, 3, 4, 5] rfl h
            · replace h := h.2 c16
              refine j_lload o dX12_likely_69 rfl ?_
              refine j_iload_n o dX12_likely_71 rfl ?_
              refine j_iconst o (v := (-1)) dX12_likely_72 rfl ?_
              replace h := h (fun (x17 : Int64) => J X P (upM M 1 0 0) N 0 0 E 7 98 [(0, .ref (P.1 1)), (1, .int a1), (2, .int a2), (3, .int a3), (6, .int x10)] [.long x17, .long x9]) (by
                intro x17 h
                refine j_ladd o dX12_likely_98 ?_
                refine j_lstore o [(4, .long (x9 + x17)), (0, .ref (P.1 1)), (1, .int a1), (2, .int a2), (3, .int a3), (6, .int x10)] dX12_likely_99 (by decide) rfl ?_
                exact j_pick [1, 2, 3, 4, 0, 5] rfl h)
              refine j_icmp_ne o (tgt := 91) dX12_likely_73 (by decide) (fun c18 => ?_) (fun c18 => ?_)
              · replace h := h.1 c18
                refine j_aload_n o dX12_likely_91 rfl ?_
                refine j_iload_n o dX12_likely_92 rfl ?_
                refine j_iload o dX12_likely_93 rfl ?_
                refine j_callVl (g := 1) (ci := 12) o (c_X12_shareOfSort l P a3 x10 (upM M 1 0 0) N _ h) dX12_likely_95 jc_X12_393 jn_X12_shareOfSort rfl rfl rfl (fun _ => rfl) rfl rfl (fun r19 Mz20 Nz21 h => ?_)
                obtain ⟨rfl, rfl, h⟩ := h
                exact j_pick [0, 1, 2, 3, 5] rfl h
              · replace h := h.2 c18
                refine j_aload_n o dX12_likely_76 rfl ?_
                refine j_aload_n o dX12_likely_77 rfl ?_
                refine j_getf o (g := 1) (slot := 2) (ci := 12) (v := .int ((upM M 1 0 0) 1 2)) rfl jin_X12 (by decide) rfl jf_X12_111 (fun _ => rfl) rfl dX12_likely_78 ?_
                refine j_iconst o (v := 1) dX12_likely_81 rfl ?_
                refine j_isub o dX12_likely_82 ?_
                refine j_iload o dX12_likely_83 rfl ?_
                refine j_callVl (g := 1) (ci := 12) o (c_X12_shareOf l P (((upM M 1 0 0) 1 2) - 1) x10 (upM M 1 0 0) N _ h) dX12_likely_85 jc_X12_285 jn_X12_shareOf rfl rfl rfl (fun _ => rfl) rfl rfl (fun r22 Mz23 Nz24 h => ?_)
                obtain ⟨rfl, rfl, h⟩ := h
                refine j_goto o (tgt := 98) dX12_likely_88 (by decide) ?_
                exact j_pick [0, 1, 2, 3, 5] rfl h)
        exact j_pick [2, 3, 4, 5, 1, 0] rfl h)
      refine j_icmp_eq o (tgt := 43) dX12_likely_22 (by decide) (fun c25 => ?_) (fun c25 => ?_)
      · replace h := h.1 c25
        exact j_pick [0, 1, 2, 3] rfl h
      · replace h := h.2 c25
        refine j_iload_n o dX12_likely_25 rfl ?_
        refine j_iconst o (v := 0) dX12_likely_26 rfl ?_
        refine j_aload_n o dX12_likely_27 rfl ?_
        refine j_getf o (g := 1) (slot := 31) (ci := 12) (v := .int ((upM M 1 0 0) 1 31)) rfl jin_X12 (by decide) rfl jf_X12_280 (fun _ => rfl) rfl dX12_likely_28 ?_
        refine j_iconst o (v := 1) dX12_likely_31 rfl ?_
        refine j_isub o dX12_likely_32 ?_
        refine j_callSi o (c_X12_isIn l P a3 0 (((upM M 1 0 0) 1 31) - 1) (upM M 1 0 0) N _ h) dX12_likely_33 jc_X12_209 jn_X12_isIn rfl rfl rfl rfl (fun r26 Mz27 Nz28 h => ?_)
        obtain ⟨rfl, rfl, h⟩ := h
        refine j_if_ne o (tgt := 43) dX12_likely_36 (by decide) (fun c29 => ?_) (fun c29 => ?_)
        · replace h := h.1 c29
          exact j_pick [0, 1, 2, 3] rfl h
        · replace h := h.2 c29
          refine j_ldc2 o jk_X12_289 dX12_likely_39 ?_
          rw [hE]
          exact j_lret o dX12_likely_42 ⟨_, rfl, rfl, rfl, h⟩

abbrev rm_X12_mattersYet : Room := { frames := 1, cells := 0, slots := 0, locals := 22 }
def w_X12_mattersYet (P : jP) (a1 : Int32) (a2 : Int32) (a3 : Int32) (a4 : Int32) (M : jM) (Q : Int32 → Prop) : Prop :=
  ∀ R3 : Int32 → Prop, (∀ (x1 : Int32), (
   ((M 1 2) ≤ x1 → (
    Q 0
   )) ∧ (¬ (M 1 2) ≤ x1 → (
    ∀ R44 : Prop, ((
     R3 (x1 + 1)
    ) → R44) →
    (¬ (x1 &&& a2) = a3 → (
     R44
    )) ∧ ((x1 &&& a2) = a3 → (
     w_X12_saidOn P a1 x1 M (fun r4 =>
     w_X12_saidOn P a1 (x1 ^^^ ((1 : Int32) <<< (a4 &&& 31))) M (fun r7 =>
     (r4 = r7 → (
      R44
     )) ∧ (¬ r4 = r7 → (
      Q 1
     ))))
    ))
   ))
  ) → R3 x1) →
  R3 0
set_option maxRecDepth 20000 in
theorem c_X12_mattersYet (l : Launch) (P : jP) (a1 : Int32) (a2 : Int32) (a3 : Int32) (a4 : Int32) (M : jM) (N : jN) (Q : Int32 → Prop) (h : w_X12_mattersYet P a1 a2 a3 a4 M Q) : jC l yX12_mattersYet cX12_mattersYet 6 (some .boolean) rm_X12_mattersYet LM [.ref (P.1 1), .int a1, .int a2, .int a3, .int a4] P M N (jqi P (fun r M' N' => M = M' ∧ N = N' ∧ Q r )) := by
  refine jC_of (by decide +kernel) [(0, .ref (P.1 1)), (1, .int a1), (2, .int a2), (3, .int a3), (4, .int a4)] (Nat.le_of_ble_eq_true rfl) rfl (fun X o => ?_)
  obtain ⟨E, hE⟩ : ∃ E, E = jE X rm_X12_mattersYet (jqi P (fun r M' N' => M = M' ∧ N = N' ∧ Q r )) := ⟨_, rfl⟩
  rw [← hE]
  unfold w_X12_mattersYet at h
  refine j_iconst o (v := 0) dX12_mattersYet_0 rfl ?_
  refine j_istore o [(5, .int 0), (0, .ref (P.1 1)), (1, .int a1), (2, .int a2), (3, .int a3), (4, .int a4)] dX12_mattersYet_1 (by decide) rfl ?_
  replace h := h (fun (x1 : Int32) => J X P M N 0 0 E 6 3 [(0, .ref (P.1 1)), (1, .int a1), (2, .int a2), (3, .int a3), (4, .int a4), (5, .int x1)] []) (by
    intro x1 h
    refine j_iload o dX12_mattersYet_3 rfl ?_
    refine j_aload_n o dX12_mattersYet_5 rfl ?_
    refine j_getf o (g := 1) (slot := 2) (ci := 12) (v := .int (M 1 2)) rfl jin_X12 (by decide) rfl jf_X12_111 (fun _ => rfl) rfl dX12_mattersYet_6 ?_
    refine j_icmp_ge o (tgt := 50) dX12_mattersYet_9 (by decide) (fun c2 => ?_) (fun c2 => ?_)
    · replace h := h.1 c2
      refine j_iconst o (v := 0) dX12_mattersYet_50 rfl ?_
      rw [hE]
      exact j_zret o rfl dX12_mattersYet_51 ⟨_, rfl, rfl, rfl, rfl, h⟩
    · replace h := h.2 c2
      refine j_iload o dX12_mattersYet_12 rfl ?_
      refine j_iload_n o dX12_mattersYet_14 rfl ?_
      refine j_iand o dX12_mattersYet_15 ?_
      refine j_iload_n o dX12_mattersYet_16 rfl ?_
      replace h := h (J X P M N 0 0 E 6 44 [(0, .ref (P.1 1)), (1, .int a1), (2, .int a2), (3, .int a3), (4, .int a4), (5, .int x1)] []) (by
        intro h
        refine j_iinc o (v := x1 + 1) [(5, .int (x1 + 1)), (0, .ref (P.1 1)), (1, .int a1), (2, .int a2), (3, .int a3), (4, .int a4)] dX12_mattersYet_44 rfl rfl (by decide) rfl ?_
        refine j_goto o (tgt := 3) dX12_mattersYet_47 (by decide) ?_
        exact j_pick [1, 2, 3, 4, 5, 0] rfl h)
      refine j_icmp_ne o (tgt := 44) dX12_mattersYet_17 (by decide) (fun c3 => ?_) (fun c3 => ?_)
      · replace h := h.1 c3
        exact j_pick [0, 1, 2, 3, 4, 5] rfl h
      · replace h := h.2 c3
        refine j_aload_n o dX12_mattersYet_20 rfl ?_
        refine j_iload_n o dX12_mattersYet_21 rfl ?_
        refine j_iload o dX12_mattersYet_22 rfl ?_
        refine j_callVi (g := 1) (ci := 12) o (c_X12_saidOn l P a1 x1 M N _ h) dX12_mattersYet_24 jc_X12_239 jn_X12_saidOn rfl rfl rfl (fun _ => rfl) rfl rfl (fun r4 Mz5 Nz6 h => ?_)
        obtain ⟨rfl, rfl, h⟩ := h
        refine j_aload_n o dX12_mattersYet_27 rfl ?_
        refine j_iload_n o dX12_mattersYet_28 rfl ?_
        refine j_iload o dX12_mattersYet_29 rfl ?_
        refine j_iconst o (v := 1) dX12_mattersYet_31 rfl ?_
        refine j_iload o dX12_mattersYet_32 rfl ?_
        refine j_ishl o dX12_mattersYet_34 ?_
        refine j_ixor o dX12_mattersYet_35 ?_
        refine j_callVi (g := 1) (ci := 12) o (c_X12_saidOn l P a1 (x1 ^^^ ((1 : Int32) <<< (a4 &&& 31))) M N _ h) dX12_mattersYet_36 jc_X12_239 jn_X12_saidOn rfl rfl rfl (fun _ => rfl) rfl rfl (fun r7 Mz8 Nz9 h => ?_)
        obtain ⟨rfl, rfl, h⟩ := h
        refine j_icmp_eq o (tgt := 44) dX12_mattersYet_39 (by decide) (fun c10 => ?_) (fun c10 => ?_)
        · replace h := h.1 c10
          exact j_pick [0, 1, 2, 3, 4, 5] rfl h
        · replace h := h.2 c10
          refine j_iconst o (v := 1) dX12_mattersYet_42 rfl ?_
          rw [hE]
          exact j_zret o rfl dX12_mattersYet_43 ⟨_, rfl, rfl, rfl, rfl, h⟩)
  exact j_pick [1, 2, 3, 4, 5, 0] rfl h

abbrev rm_X12_askedOn : Room := { frames := 2, cells := 0, slots := 0, locals := 47 }
def w_X12_askedOn (P : jP) (a1 : Int32) (a2 : Int32) (M : jM) (Q : Int32 → Prop) : Prop :=
  ∀ R5 : Int32 → Int32 → Prop, (∀ (x1 : Int32) (x2 : Int32), (
   ((M 1 1) ≤ x2 → (
    Q x1
   )) ∧ (¬ (M 1 1) ≤ x2 → (
    vp_in x2 (9) ∧
    w_X12_mattersYet P a1 x1 (a2 &&& x1) (M 24 x2.toNatClampNeg) M (fun r5 =>
    ∀ R45 : Int32 → Prop, (∀ (x8 : Int32), (
     R5 x8 (x2 + 1)
    ) → R45 x8) →
    (r5 = 0 → (
     R45 x1
    )) ∧ (¬ r5 = 0 → (
     vp_in x2 (9) ∧
     ∀ y11 : Int32, y11 = x1 ||| ((1 : Int32) <<< ((M 24 x2.toNatClampNeg) &&& 31)) →
     R45 y11
    )))
   ))
  ) → R5 x1 x2) →
  R5 0 0
set_option maxRecDepth 20000 in
theorem c_X12_askedOn (l : Launch) (P : jP) (a1 : Int32) (a2 : Int32) (M : jM) (N : jN) (Q : Int32 → Prop) (h : w_X12_askedOn P a1 a2 M Q) : jC l yX12_askedOn cX12_askedOn 5 (some .int) rm_X12_askedOn LM [.ref (P.1 1), .int a1, .int a2] P M N (jqi P (fun r M' N' => M = M' ∧ N = N' ∧ Q r )) := by
  refine jC_of (by decide +kernel) [(0, .ref (P.1 1)), (1, .int a1), (2, .int a2)] (Nat.le_of_ble_eq_true rfl) rfl (fun X o => ?_)
  obtain ⟨E, hE⟩ : ∃ E, E = jE X rm_X12_askedOn (jqi P (fun r M' N' => M = M' ∧ N = N' ∧ Q r )) := ⟨_, rfl⟩
  rw [← hE]
  unfold w_X12_askedOn at h
  refine j_iconst o (v := 0) dX12_askedOn_0 rfl ?_
  refine j_istore_n o [(3, .int 0), (0, .ref (P.1 1)), (1, .int a1), (2, .int a2)] dX12_askedOn_1 (by decide) rfl ?_
  refine j_iconst o (v := 0) dX12_askedOn_2 rfl ?_
  refine j_istore o [(4, .int 0), (3, .int 0), (0, .ref (P.1 1)), (1, .int a1), (2, .int a2)] dX12_askedOn_3 (by decide) rfl ?_
  replace h := h (fun (x1 : Int32) (x2 : Int32) => J X P M N 0 0 E 5 5 [(0, .ref (P.1 1)), (1, .int a1), (2, .int a2), (3, .int x1), (4, .int x2)] []) (by
    intro x1 x2 h
    refine j_iload o dX12_askedOn_5 rfl ?_
    refine j_aload_n o dX12_askedOn_7 rfl ?_
    refine j_getf o (g := 1) (slot := 1) (ci := 12) (v := .int (M 1 1)) rfl jin_X12 (by decide) rfl jf_X12_107 (fun _ => rfl) rfl dX12_askedOn_8 ?_
    refine j_icmp_ge o (tgt := 51) dX12_askedOn_11 (by decide) (fun c3 => ?_) (fun c3 => ?_)
    · replace h := h.1 c3
      refine j_iload_n o dX12_askedOn_51 rfl ?_
      rw [hE]
      exact j_iret o dX12_askedOn_52 ⟨_, rfl, rfl, rfl, rfl, h⟩
    · replace h := h.2 c3
      refine j_aload_n o dX12_askedOn_14 rfl ?_
      refine j_iload_n o dX12_askedOn_15 rfl ?_
      refine j_iload_n o dX12_askedOn_16 rfl ?_
      refine j_iload_n o dX12_askedOn_17 rfl ?_
      refine j_iload_n o dX12_askedOn_18 rfl ?_
      refine j_iand o dX12_askedOn_19 ?_
      refine j_aload_n o dX12_askedOn_20 rfl ?_
      refine j_getf o (g := 1) (slot := 38) (ci := 12) (v := .ref (P.1 24)) rfl jin_X12 (by decide) rfl jf_X12_80 (fun _ => rfl) rfl dX12_askedOn_21 ?_
      refine j_iload o dX12_askedOn_24 rfl ?_
      obtain ⟨hb4, h⟩ := h
      refine j_iald o (g := 24) (fun _ => rfl) hb4 dX12_askedOn_26 ?_
      refine j_callVi (g := 1) (ci := 12) o (c_X12_mattersYet l P a1 x1 (a2 &&& x1) (M 24 x2.toNatClampNeg) M N _ h) dX12_askedOn_27 jc_X12_396 jn_X12_mattersYet rfl rfl rfl (fun _ => rfl) rfl rfl (fun r5 Mz6 Nz7 h => ?_)
      obtain ⟨rfl, rfl, h⟩ := h
      replace h := h (fun (x8 : Int32) => J X P M N 0 0 E 5 45 [(0, .ref (P.1 1)), (1, .int a1), (2, .int a2), (3, .int x8), (4, .int x2)] []) (by
        intro x8 h
        refine j_iinc o (v := x2 + 1) [(4, .int (x2 + 1)), (0, .ref (P.1 1)), (1, .int a1), (2, .int a2), (3, .int x8)] dX12_askedOn_45 rfl rfl (by decide) rfl ?_
        refine j_goto o (tgt := 5) dX12_askedOn_48 (by decide) ?_
        exact j_pick [1, 2, 3, 4, 0] rfl h)
      refine j_if_eq o (tgt := 45) dX12_askedOn_30 (by decide) (fun c9 => ?_) (fun c9 => ?_)
      · replace h := h.1 c9
        exact j_pick [0, 1, 2, 3, 4] rfl h
      · replace h := h.2 c9
        refine j_iload_n o dX12_askedOn_33 rfl ?_
        refine j_iconst o (v := 1) dX12_askedOn_34 rfl ?_
        refine j_aload_n o dX12_askedOn_35 rfl ?_
        refine j_getf o (g := 1) (slot := 38) (ci := 12) (v := .ref (P.1 24)) rfl jin_X12 (by decide) rfl jf_X12_80 (fun _ => rfl) rfl dX12_askedOn_36 ?_
        refine j_iload o dX12_askedOn_39 rfl ?_
        obtain ⟨hb10, h⟩ := h
        refine j_iald o (g := 24) (fun _ => rfl) hb10 dX12_askedOn_41 ?_
        refine j_ishl o dX12_askedOn_42 ?_
        refine j_ior o dX12_askedOn_43 ?_
        refine j_topi (fun y11 hy11 => ?_)
        replace h := h y11 hy11
        refine j_istore_n o [(3, .int y11), (0, .ref (P.1 1)), (1, .int a1), (2, .int a2), (4, .int x2)] dX12_askedOn_44 (by decide) rfl ?_
        exact j_pick [1, 2, 3, 0, 4] rfl h)
  exact j_pick [2, 3, 4, 1, 0] rfl h

abbrev rm_X12_straight : Room := { frames := 3, cells := 0, slots := 0, locals := 71 }
def w_X12_straight (P : jP) (a1 : Int32) (a2 : Int32) (a3 : Int32) (M : jM) (Q : Int32 → jM → Prop) : Prop :=
  w_X12_isLaw P a1 (upM M 1 0 0) (fun r1 =>
  (r1 = 0 → (
   Q (-1) (upM M 1 0 0)
  )) ∧ (¬ r1 = 0 → (
   ∀ R26 : Prop, ((
    w_X12_isOrder P a2 (upM M 1 0 0) (fun r5 M6 =>
    (¬ r5 = 0 → (
     (a3 = (-1) → (
      ∀ R57 : Int32 → Int32 → Prop, (∀ (x10 : Int32) (x11 : Int32), (
       ((M6 1 2) ≤ x11 → (
        Q x10 M6
       )) ∧ (¬ (M6 1 2) ≤ x11 → (
        w_X12_askedOn P a1 x11 M6 (fun r13 =>
        ∀ R81 : Int32 → Int32 → Prop, (∀ (x16 : Int32) (x17 : Int32), (
         ((M6 1 1) ≤ x17 → (
          R57 (if x10 < x16 then x16 else x10) (x11 + 1)
         )) ∧ (¬ (M6 1 1) ≤ x17 → (
          w_X12_has P r13 x17 (fun r19 =>
          ∀ R113 : Int32 → Prop, (∀ (x22 : Int32), (
           R81 (x16 + x22) (x17 + 1)
          ) → R113 x22) →
          (r19 = 0 → (
           R113 0
          )) ∧ (¬ r19 = 0 → (
           vp_in x17 (9) ∧
           R113 (M6 12 x17.toNatClampNeg)
          )))
         ))
        ) → R81 x16 x17) →
        R81 0 0)
       ))
      ) → R57 x10 x11) →
      R57 0 0
     )) ∧ (¬ a3 = (-1) → (
      w_X12_askedOn P a1 a3 M6 (fun r25 =>
      w_J6_bitCount_0f7a4 P r25 (fun r28 =>
      Q r28 M6))
     ))
    )) ∧ (r5 = 0 → (
     Q (-1) M6
    )))
   ) → R26) →
   (a3 = (-1) → (
    R26
   )) ∧ (¬ a3 = (-1) → (
    w_X12_isCase P a3 (upM M 1 0 0) (fun r32 =>
    (r32 = 0 → (
     Q (-1) (upM M 1 0 0)
    )) ∧ (¬ r32 = 0 → (
     R26
    )))
   ))
  )))
set_option maxRecDepth 20000 in
theorem c_X12_straight (l : Launch) (P : jP) (a1 : Int32) (a2 : Int32) (a3 : Int32) (M : jM) (N : jN) (Q : Int32 → jM → Prop) (h : w_X12_straight P a1 a2 a3 M Q) : jC l yX12_straight cX12_straight 9 (some .int) rm_X12_straight LM [.ref (P.1 1), .int a1, .int a2, .int a3] P M N (jqi P (fun r M' N' => N = N' ∧ Q r M' )) := by
  refine jC_of (by decide +kernel) [(0, .ref (P.1 1)), (1, .int a1), (2, .int a2), (3, .int a3)] (Nat.le_of_ble_eq_true rfl) rfl (fun X o => ?_)
  obtain ⟨E, hE⟩ : ∃ E, E = jE X rm_X12_straight (jqi P (fun r M' N' => N = N' ∧ Q r M' )) := ⟨_, rfl⟩
  rw [← hE]
  unfold w_X12_straight at h
  refine j_aload_n o dX12_straight_0 rfl ?_
  refine j_iconst o (v := 0) dX12_straight_1 rfl ?_
  refine j_putf o (M1 := upM M 1 0 0) (N1 := N) (g := 1) (slot := 0) (ci := 12) (ty := .int) rfl jin_X12 tyX12_ok nmX12 (by decide) rfl rfl jf_X12_114 (by decide +kernel) rfl rfl (Nat.le_of_ble_eq_true rfl) (fun _ => rfl) (fun _ => rfl) (fun _ hj => upM_ne _ _ _ hj) (fun _ _ => rfl) dX12_straight_2 ?_
  refine j_aload_n o dX12_straight_5 rfl ?_
  refine j_iload_n o dX12_straight_6 rfl ?_
  refine j_callVi (g := 1) (ci := 12) o (c_X12_isLaw l P a1 (upM M 1 0 0) N _ h) dX12_straight_7 jc_X12_233 jn_X12_isLaw rfl rfl rfl (fun _ => rfl) rfl rfl (fun r1 Mz2 Nz3 h => ?_)
  obtain ⟨rfl, rfl, h⟩ := h
  refine j_if_eq o (tgt := 34) dX12_straight_10 (by decide) (fun c4 => ?_) (fun c4 => ?_)
  · replace h := h.1 c4
    refine j_iconst o (v := (-1)) dX12_straight_34 rfl ?_
    rw [hE]
    exact j_iret o dX12_straight_35 ⟨_, rfl, rfl, rfl, h⟩
  · replace h := h.2 c4
    refine j_iload_n o dX12_straight_13 rfl ?_
    refine j_iconst o (v := (-1)) dX12_straight_14 rfl ?_
    replace h := h (J X P (upM M 1 0 0) N 0 0 E 9 26 [(0, .ref (P.1 1)), (1, .int a1), (2, .int a2), (3, .int a3)] []) (by
      intro h
      refine j_aload_n o dX12_straight_26 rfl ?_
      refine j_iload_n o dX12_straight_27 rfl ?_
      refine j_callVi (g := 1) (ci := 12) o (c_X12_isOrder l P a2 (upM M 1 0 0) N _ h) dX12_straight_28 jc_X12_362 jn_X12_isOrder rfl rfl rfl (fun _ => rfl) rfl rfl (fun r5 M6 Nz7 h => ?_)
      obtain ⟨rfl, h⟩ := h
      refine j_if_ne o (tgt := 36) dX12_straight_31 (by decide) (fun c8 => ?_) (fun c8 => ?_)
      · replace h := h.1 c8
        refine j_iload_n o dX12_straight_36 rfl ?_
        refine j_iconst o (v := (-1)) dX12_straight_37 rfl ?_
        refine j_icmp_eq o (tgt := 51) dX12_straight_38 (by decide) (fun c9 => ?_) (fun c9 => ?_)
        · replace h := h.1 c9
          refine j_iconst o (v := 0) dX12_straight_51 rfl ?_
          refine j_istore o [(4, .int 0), (0, .ref (P.1 1)), (1, .int a1), (2, .int a2), (3, .int a3)] dX12_straight_52 (by decide) rfl ?_
          refine j_iconst o (v := 0) dX12_straight_54 rfl ?_
          refine j_istore o [(5, .int 0), (4, .int 0), (0, .ref (P.1 1)), (1, .int a1), (2, .int a2), (3, .int a3)] dX12_straight_55 (by decide) rfl ?_
          replace h := h (fun (x10 : Int32) (x11 : Int32) => J X P M6 N 0 0 E 9 57 [(0, .ref (P.1 1)), (1, .int a1), (4, .int x10), (5, .int x11)] []) (by
            intro x10 x11 h
            refine j_iload o dX12_straight_57 rfl ?_
            refine j_aload_n o dX12_straight_59 rfl ?_
            refine j_getf o (g := 1) (slot := 2) (ci := 12) (v := .int (M6 1 2)) rfl jin_X12 (by decide) rfl jf_X12_111 (fun _ => rfl) rfl dX12_straight_60 ?_
            refine j_icmp_ge o (tgt := 137) dX12_straight_63 (by decide) (fun c12 => ?_) (fun c12 => ?_)
            · replace h := h.1 c12
              refine j_iload o dX12_straight_137 rfl ?_
              rw [hE]
              exact j_iret o dX12_straight_139 ⟨_, rfl, rfl, rfl, h⟩
            · replace h := h.2 c12
              refine j_aload_n o dX12_straight_66 rfl ?_
              refine j_iload_n o dX12_straight_67 rfl ?_
              refine j_iload o dX12_straight_68 rfl ?_
              refine j_callVi (g := 1) (ci := 12) o (c_X12_askedOn l P a1 x11 M6 N _ h) dX12_straight_70 jc_X12_399 jn_X12_askedOn rfl rfl rfl (fun _ => rfl) rfl rfl (fun r13 Mz14 Nz15 h => ?_)
              obtain ⟨rfl, rfl, h⟩ := h
              refine j_istore o [(6, .int r13), (0, .ref (P.1 1)), (1, .int a1), (4, .int x10), (5, .int x11)] dX12_straight_73 (by decide) rfl ?_
              refine j_iconst o (v := 0) dX12_straight_75 rfl ?_
              refine j_istore o [(7, .int 0), (6, .int r13), (0, .ref (P.1 1)), (1, .int a1), (4, .int x10), (5, .int x11)] dX12_straight_76 (by decide) rfl ?_
              refine j_iconst o (v := 0) dX12_straight_78 rfl ?_
              refine j_istore o [(8, .int 0), (7, .int 0), (6, .int r13), (0, .ref (P.1 1)), (1, .int a1), (4, .int x10), (5, .int x11)] dX12_straight_79 (by decide) rfl ?_
              replace h := h (fun (x16 : Int32) (x17 : Int32) => J X P M6 N 0 0 E 9 81 [(0, .ref (P.1 1)), (1, .int a1), (4, .int x10), (5, .int x11), (6, .int r13), (7, .int x16), (8, .int x17)] []) (by
                intro x16 x17 h
                refine j_iload o dX12_straight_81 rfl ?_
                refine j_aload_n o dX12_straight_83 rfl ?_
                refine j_getf o (g := 1) (slot := 1) (ci := 12) (v := .int (M6 1 1)) rfl jin_X12 (by decide) rfl jf_X12_107 (fun _ => rfl) rfl dX12_straight_84 ?_
                refine j_icmp_ge o (tgt := 122) dX12_straight_87 (by decide) (fun c18 => ?_) (fun c18 => ?_)
                · replace h := h.1 c18
                  refine j_iload o dX12_straight_122 rfl ?_
                  refine j_iload o dX12_straight_124 rfl ?_
                  refine j_mmax o dX12_straight_126 jc_X12_104 rfl ?_
                  refine j_istore o [(4, .int (if x10 < x16 then x16 else x10)), (0, .ref (P.1 1)), (1, .int a1), (5, .int x11), (6, .int r13), (7, .int x16), (8, .int x17)] dX12_straight_129 (by decide) rfl ?_
                  refine j_iinc o (v := x11 + 1) [(5, .int (x11 + 1)), (4, .int (if x10 < x16 then x16 else x10)), (0, .ref (P.1 1)), (1, .int a1), (6, .int r13), (7, .int x16), (8, .int x17)] dX12_straight_131 rfl rfl (by decide) rfl ?_
                  refine j_goto o (tgt := 57) dX12_straight_134 (by decide) ?_
                  exact j_pick [2, 3, 1, 0] rfl h
                · replace h := h.2 c18
                  refine j_iload o dX12_straight_90 rfl ?_
                  refine j_iload o dX12_straight_92 rfl ?_
                  refine j_iload o dX12_straight_94 rfl ?_
                  refine j_callSi o (c_X12_has l P r13 x17 M6 N _ h) dX12_straight_96 jc_X12_157 jn_X12_has rfl rfl rfl rfl (fun r19 Mz20 Nz21 h => ?_)
                  obtain ⟨rfl, rfl, h⟩ := h
                  replace h := h (fun (x22 : Int32) => J X P M6 N 0 0 E 9 113 [(0, .ref (P.1 1)), (1, .int a1), (4, .int x10), (5, .int x11), (6, .int r13), (8, .int x17)] [.int x22, .int x16]) (by
                    intro x22 h
                    refine j_iadd o dX12_straight_113 ?_
                    refine j_istore o [(7, .int (x16 + x22)), (0, .ref (P.1 1)), (1, .int a1), (4, .int x10), (5, .int x11), (6, .int r13), (8, .int x17)] dX12_straight_114 (by decide) rfl ?_
                    refine j_iinc o (v := x17 + 1) [(8, .int (x17 + 1)), (7, .int (x16 + x22)), (0, .ref (P.1 1)), (1, .int a1), (4, .int x10), (5, .int x11), (6, .int r13)] dX12_straight_116 rfl rfl (by decide) rfl ?_
                    refine j_goto o (tgt := 81) dX12_straight_119 (by decide) ?_
                    exact j_pick [2, 3, 4, 5, 6, 1, 0] rfl h)
                  refine j_if_eq o (tgt := 112) dX12_straight_99 (by decide) (fun c23 => ?_) (fun c23 => ?_)
                  · replace h := h.1 c23
                    refine j_iconst o (v := 0) dX12_straight_112 rfl ?_
                    exact j_pick [0, 1, 2, 3, 4, 6] rfl h
                  · replace h := h.2 c23
                    refine j_aload_n o dX12_straight_102 rfl ?_
                    refine j_getf o (g := 1) (slot := 21) (ci := 12) (v := .ref (P.1 12)) rfl jin_X12 (by decide) rfl jf_X12_41 (fun _ => rfl) rfl dX12_straight_103 ?_
                    refine j_iload o dX12_straight_106 rfl ?_
                    obtain ⟨hb24, h⟩ := h
                    refine j_iald o (g := 12) (fun _ => rfl) hb24 dX12_straight_108 ?_
                    refine j_goto o (tgt := 113) dX12_straight_109 (by decide) ?_
                    exact j_pick [0, 1, 2, 3, 4, 6] rfl h)
              exact j_pick [3, 4, 5, 6, 2, 1, 0] rfl h)
          exact j_pick [2, 3, 1, 0] rfl h
        · replace h := h.2 c9
          refine j_aload_n o dX12_straight_41 rfl ?_
          refine j_iload_n o dX12_straight_42 rfl ?_
          refine j_iload_n o dX12_straight_43 rfl ?_
          refine j_callVi (g := 1) (ci := 12) o (c_X12_askedOn l P a1 a3 M6 N _ h) dX12_straight_44 jc_X12_399 jn_X12_askedOn rfl rfl rfl (fun _ => rfl) rfl rfl (fun r25 Mz26 Nz27 h => ?_)
          obtain ⟨rfl, rfl, h⟩ := h
          refine j_callSi o (c_J6_bitCount_0f7a4 l P r25 M6 N _ h) dX12_straight_47 jc_X12_117 jn_J6_bitCount_0f7a4 rfl rfl rfl rfl (fun r28 Mz29 Nz30 h => ?_)
          obtain ⟨rfl, rfl, h⟩ := h
          rw [hE]
          exact j_iret o dX12_straight_50 ⟨_, rfl, rfl, rfl, h⟩
      · replace h := h.2 c8
        refine j_iconst o (v := (-1)) dX12_straight_34 rfl ?_
        rw [hE]
        exact j_iret o dX12_straight_35 ⟨_, rfl, rfl, rfl, h⟩)
    refine j_icmp_eq o (tgt := 26) dX12_straight_15 (by decide) (fun c31 => ?_) (fun c31 => ?_)
    · replace h := h.1 c31
      exact j_pick [0, 1, 2, 3] rfl h
    · replace h := h.2 c31
      refine j_aload_n o dX12_straight_18 rfl ?_
      refine j_iload_n o dX12_straight_19 rfl ?_
      refine j_callVi (g := 1) (ci := 12) o (c_X12_isCase l P a3 (upM M 1 0 0) N _ h) dX12_straight_20 jc_X12_236 jn_X12_isCase rfl rfl rfl (fun _ => rfl) rfl rfl (fun r32 Mz33 Nz34 h => ?_)
      obtain ⟨rfl, rfl, h⟩ := h
      refine j_if_eq o (tgt := 34) dX12_straight_23 (by decide) (fun c35 => ?_) (fun c35 => ?_)
      · replace h := h.1 c35
        refine j_iconst o (v := (-1)) dX12_straight_34 rfl ?_
        rw [hE]
        exact j_iret o dX12_straight_35 ⟨_, rfl, rfl, rfl, h⟩
      · replace h := h.2 c35
        exact j_pick [0, 1, 2, 3] rfl h

abbrev rm_X12_count : Room := { frames := 0, cells := 0, slots := 0, locals := 0 }
def w_X12_count (P : jP) (a1 : Int32) (M : jM) (Q : Int32 → jM → Prop) : Prop :=
  (a1 = 0 → (
   Q ((upM M 1 0 0) 1 25) (upM M 1 0 0)
  )) ∧
  (a1 = 1 → (
   Q ((upM M 1 0 0) 1 26) (upM M 1 0 0)
  )) ∧
  (a1 = 2 → (
   Q ((upM M 1 0 0) 1 27) (upM M 1 0 0)
  )) ∧
  (a1 = 3 → (
   Q ((upM M 1 0 0) 1 31) (upM M 1 0 0)
  )) ∧
  (a1 = 4 → (
   Q ((upM M 1 0 0) 1 1) (upM M 1 0 0)
  )) ∧
  (a1 = 5 → (
   Q ((upM M 1 0 0) 1 4) (upM M 1 0 0)
  )) ∧
  (a1 = 6 → (
   Q ((upM M 1 0 0) 1 44) (upM M 1 0 0)
  )) ∧
  (¬ a1 = 0 → ¬ a1 = 1 → ¬ a1 = 2 → ¬ a1 = 3 → ¬ a1 = 4 → ¬ a1 = 5 → ¬ a1 = 6 → (
   Q (-1) (upM M 1 0 0)
  ))
set_option maxRecDepth 20000 in
theorem c_X12_count (l : Launch) (P : jP) (a1 : Int32) (M : jM) (N : jN) (Q : Int32 → jM → Prop) (h : w_X12_count P a1 M Q) : jC l yX12_count cX12_count 2 (some .int) rm_X12_count LM [.ref (P.1 1), .int a1] P M N (jqi P (fun r M' N' => N = N' ∧ Q r M' )) := by
  refine jC_of (by decide +kernel) [(0, .ref (P.1 1)), (1, .int a1)] (Nat.le_of_ble_eq_true rfl) rfl (fun X o => ?_)
  obtain ⟨E, hE⟩ : ∃ E, E = jE X rm_X12_count (jqi P (fun r M' N' => N = N' ∧ Q r M' )) := ⟨_, rfl⟩
  rw [← hE]
  unfold w_X12_count at h
  refine j_aload_n o dX12_count_0 rfl ?_
  refine j_iconst o (v := 0) dX12_count_1 rfl ?_
  refine j_putf o (M1 := upM M 1 0 0) (N1 := N) (g := 1) (slot := 0) (ci := 12) (ty := .int) rfl jin_X12 tyX12_ok nmX12 (by decide) rfl rfl jf_X12_114 (by decide +kernel) rfl rfl (Nat.le_of_ble_eq_true rfl) (fun _ => rfl) (fun _ => rfl) (fun _ hj => upM_ne _ _ _ hj) (fun _ _ => rfl) dX12_count_2 ?_
  refine j_iload_n o dX12_count_5 rfl ?_
  refine j_case o (off := 42) (v := 0) (tgt := 48) dX12_count_6 (by decide) (by decide) (fun c1 => ?_) (fun c1 => ?_)
  · replace h := h.1 c1
    refine j_aload_n o dX12_count_48 rfl ?_
    refine j_getf o (g := 1) (slot := 25) (ci := 12) (v := .int ((upM M 1 0 0) 1 25)) rfl jin_X12 (by decide) rfl jf_X12_216 (fun _ => rfl) rfl dX12_count_49 ?_
    rw [hE]
    exact j_iret o dX12_count_52 ⟨_, rfl, rfl, rfl, h⟩
  replace h := h.2
  refine j_case o (off := 47) (v := 1) (tgt := 53) dX12_count_6 (by decide) (by decide) (fun c2 => ?_) (fun c2 => ?_)
  · replace h := h.1 c2
    refine j_aload_n o dX12_count_53 rfl ?_
    refine j_getf o (g := 1) (slot := 26) (ci := 12) (v := .int ((upM M 1 0 0) 1 26)) rfl jin_X12 (by decide) rfl jf_X12_219 (fun _ => rfl) rfl dX12_count_54 ?_
    rw [hE]
    exact j_iret o dX12_count_57 ⟨_, rfl, rfl, rfl, h⟩
  replace h := h.2
  refine j_case o (off := 52) (v := 2) (tgt := 58) dX12_count_6 (by decide) (by decide) (fun c3 => ?_) (fun c3 => ?_)
  · replace h := h.1 c3
    refine j_aload_n o dX12_count_58 rfl ?_
    refine j_getf o (g := 1) (slot := 27) (ci := 12) (v := .int ((upM M 1 0 0) 1 27)) rfl jin_X12 (by decide) rfl jf_X12_222 (fun _ => rfl) rfl dX12_count_59 ?_
    rw [hE]
    exact j_iret o dX12_count_62 ⟨_, rfl, rfl, rfl, h⟩
  replace h := h.2
  refine j_case o (off := 57) (v := 3) (tgt := 63) dX12_count_6 (by decide) (by decide) (fun c4 => ?_) (fun c4 => ?_)
  · replace h := h.1 c4
    refine j_aload_n o dX12_count_63 rfl ?_
    refine j_getf o (g := 1) (slot := 31) (ci := 12) (v := .int ((upM M 1 0 0) 1 31)) rfl jin_X12 (by decide) rfl jf_X12_280 (fun _ => rfl) rfl dX12_count_64 ?_
    rw [hE]
    exact j_iret o dX12_count_67 ⟨_, rfl, rfl, rfl, h⟩
  replace h := h.2
  refine j_case o (off := 62) (v := 4) (tgt := 68) dX12_count_6 (by decide) (by decide) (fun c5 => ?_) (fun c5 => ?_)
  · replace h := h.1 c5
    refine j_aload_n o dX12_count_68 rfl ?_
    refine j_getf o (g := 1) (slot := 1) (ci := 12) (v := .int ((upM M 1 0 0) 1 1)) rfl jin_X12 (by decide) rfl jf_X12_107 (fun _ => rfl) rfl dX12_count_69 ?_
    rw [hE]
    exact j_iret o dX12_count_72 ⟨_, rfl, rfl, rfl, h⟩
  replace h := h.2
  refine j_case o (off := 67) (v := 5) (tgt := 73) dX12_count_6 (by decide) (by decide) (fun c6 => ?_) (fun c6 => ?_)
  · replace h := h.1 c6
    refine j_aload_n o dX12_count_73 rfl ?_
    refine j_getf o (g := 1) (slot := 4) (ci := 12) (v := .int ((upM M 1 0 0) 1 4)) rfl jin_X12 (by decide) rfl jf_X12_123 (fun _ => rfl) rfl dX12_count_74 ?_
    rw [hE]
    exact j_iret o dX12_count_77 ⟨_, rfl, rfl, rfl, h⟩
  replace h := h.2
  refine j_case o (off := 72) (v := 6) (tgt := 78) dX12_count_6 (by decide) (by decide) (fun c7 => ?_) (fun c7 => ?_)
  · replace h := h.1 c7
    refine j_aload_n o dX12_count_78 rfl ?_
    refine j_getf o (g := 1) (slot := 44) (ci := 12) (v := .int ((upM M 1 0 0) 1 44)) rfl jin_X12 (by decide) rfl jf_X12_369 (fun _ => rfl) rfl dX12_count_79 ?_
    rw [hE]
    exact j_iret o dX12_count_82 ⟨_, rfl, rfl, rfl, h⟩
  replace h := h.2
  replace h := h c1 c2 c3 c4 c5 c6 c7
  refine j_caseD o (tgt := 83) dX12_count_6 (sw_out_0_7 c1 c2 c3 c4 c5 c6 c7) (by decide) ?_
  refine j_iconst o (v := (-1)) dX12_count_83 rfl ?_
  rw [hE]
  exact j_iret o dX12_count_84 ⟨_, rfl, rfl, rfl, h⟩
