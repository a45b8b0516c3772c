abbrev rm_X12_minutesOf : Room := { frames := 1, cells := 0, slots := 0, locals := 21 }
def w_X12_minutesOf (P : jP) (a1 : Int32) (M : jM) (Q : Int32 → Prop) : Prop :=
  ∀ R4 : Int32 → Int32 → Prop, (∀ (x1 : Int32) (x2 : Int32), (
   ((M 1 26) ≤ x2 → (
    Q x1
   )) ∧ (¬ (M 1 26) ≤ x2 → (
    w_X12_has P a1 x2 (fun r4 =>
    ∀ R31 : Int32 → Prop, (∀ (x7 : Int32), (
     R4 (x1 + x7) (x2 + 1)
    ) → R31 x7) →
    (r4 = 0 → (
     R31 0
    )) ∧ (¬ r4 = 0 → (
     vp_in x2 (10) ∧
     R31 (M 13 x2.toNatClampNeg)
    )))
   ))
  ) → R4 x1 x2) →
  R4 0 0
set_option maxRecDepth 20000 in
theorem c_X12_minutesOf (l : Launch) (P : jP) (a1 : Int32) (M : jM) (N : jN) (Q : Int32 → Prop) (h : w_X12_minutesOf P a1 M Q) : jC l yX12_minutesOf cX12_minutesOf 4 (some .int) rm_X12_minutesOf LM [.ref (P.1 1), .int a1] P M N (jqi P (fun r M' N' => M = M' ∧ N = N' ∧ Q r )) := by
  refine jC_of (by decide +kernel) [(0, .ref (P.1 1)), (1, .int a1)] (Nat.le_of_ble_eq_true rfl) rfl (fun X o => ?_)
  obtain ⟨E, hE⟩ : ∃ E, E = jE X rm_X12_minutesOf (jqi P (fun r M' N' => M = M' ∧ N = N' ∧ Q r )) := ⟨_, rfl⟩
  rw [← hE]
  unfold w_X12_minutesOf at h
  refine j_iconst o (v := 0) dX12_minutesOf_0 rfl ?_
  refine j_istore_n o [(2, .int 0), (0, .ref (P.1 1)), (1, .int a1)] dX12_minutesOf_1 (by decide) rfl ?_
  refine j_iconst o (v := 0) dX12_minutesOf_2 rfl ?_
  refine j_istore_n o [(3, .int 0), (2, .int 0), (0, .ref (P.1 1)), (1, .int a1)] dX12_minutesOf_3 (by decide) rfl ?_
  replace h := h (fun (x1 : Int32) (x2 : Int32) => J X P M N 0 0 E 4 4 [(0, .ref (P.1 1)), (1, .int a1), (2, .int x1), (3, .int x2)] []) (by
    intro x1 x2 h
    refine j_iload_n o dX12_minutesOf_4 rfl ?_
    refine j_aload_n o dX12_minutesOf_5 rfl ?_
    refine j_getf o (g := 1) (slot := 26) (ci := 12) (v := .int (M 1 26)) rfl jin_X12 (by decide) rfl jf_X12_219 (fun _ => rfl) rfl dX12_minutesOf_6 ?_
    refine j_icmp_ge o (tgt := 39) dX12_minutesOf_9 (by decide) (fun c3 => ?_) (fun c3 => ?_)
    · replace h := h.1 c3
      refine j_iload_n o dX12_minutesOf_39 rfl ?_
      rw [hE]
      exact j_iret o dX12_minutesOf_40 ⟨_, rfl, rfl, rfl, rfl, h⟩
    · replace h := h.2 c3
      refine j_iload_n o dX12_minutesOf_12 rfl ?_
      refine j_iload_n o dX12_minutesOf_13 rfl ?_
      refine j_iload_n o dX12_minutesOf_14 rfl ?_
      refine j_callSi o (c_X12_has l P a1 x2 M N _ h) dX12_minutesOf_15 jc_X12_157 jn_X12_has rfl rfl rfl rfl (fun r4 Mz5 Nz6 h => ?_)
      obtain ⟨rfl, rfl, h⟩ := h
      replace h := h (fun (x7 : Int32) => J X P M N 0 0 E 4 31 [(0, .ref (P.1 1)), (1, .int a1), (3, .int x2)] [.int x7, .int x1]) (by
        intro x7 h
        refine j_iadd o dX12_minutesOf_31 ?_
        refine j_istore_n o [(2, .int (x1 + x7)), (0, .ref (P.1 1)), (1, .int a1), (3, .int x2)] dX12_minutesOf_32 (by decide) rfl ?_
        refine j_iinc o (v := x2 + 1) [(3, .int (x2 + 1)), (2, .int (x1 + x7)), (0, .ref (P.1 1)), (1, .int a1)] dX12_minutesOf_33 rfl rfl (by decide) rfl ?_
        refine j_goto o (tgt := 4) dX12_minutesOf_36 (by decide) ?_
        exact j_pick [2, 3, 1, 0] rfl h)
      refine j_if_eq o (tgt := 30) dX12_minutesOf_18 (by decide) (fun c8 => ?_) (fun c8 => ?_)
      · replace h := h.1 c8
        refine j_iconst o (v := 0) dX12_minutesOf_30 rfl ?_
        exact j_pick [0, 1, 3] rfl h
      · replace h := h.2 c8
        refine j_aload_n o dX12_minutesOf_21 rfl ?_
        refine j_getf o (g := 1) (slot := 22) (ci := 12) (v := .ref (P.1 13)) rfl jin_X12 (by decide) rfl jf_X12_44 (fun _ => rfl) rfl dX12_minutesOf_22 ?_
        refine j_iload_n o dX12_minutesOf_25 rfl ?_
        obtain ⟨hb9, h⟩ := h
        refine j_iald o (g := 13) (fun _ => rfl) hb9 dX12_minutesOf_26 ?_
        refine j_goto o (tgt := 31) dX12_minutesOf_27 (by decide) ?_
        exact j_pick [0, 1, 3] rfl h)
  exact j_pick [2, 3, 1, 0] rfl h

abbrev rm_X12_page : Room := { frames := 3, cells := 0, slots := 0, locals := 69 }
def w_X12_page (P : jP) (a1 : Int32) (M : jM) (Q : Int32 → jM → Prop) : Prop :=
  w_X12_isLaw P a1 (upM M 1 0 0) (fun r1 =>
  (¬ r1 = 0 → (
   ∀ R19 : Int32 → Int32 → jM → Prop, (∀ (x5 : Int32) (x6 : Int32) (M7 : jM), (
    (((1 : Int32) <<< ((M7 1 26) &&& 31)) ≤ x6 → (
     Q x5 M7
    )) ∧ (¬ ((1 : Int32) <<< ((M7 1 26) &&& 31)) ≤ x6 → (
     ∀ R49 : Int32 → Prop, (∀ (x9 : Int32), (
      ∀ R80 : Int32 → jM → Prop, (∀ (x10 : Int32) (M11 : jM), (
       R19 x10 (x6 + 1) M11
      ) → R80 x10 M11) →
      ∀ R69 : Prop, ((
       w_X12_isTold P a1 x6 M7 (fun r12 M13 =>
       (r12 = 0 → (
        R80 x5 M13
       )) ∧ (¬ r12 = 0 → (
        R80 x6 M13
       )))
      ) → R69) →
      (x9 < 0 → (
       R69
      )) ∧ (¬ x9 < 0 → (
       (¬ x9 = 0 → (
        R80 x5 M7
       )) ∧ (x9 = 0 → (
        w_X12_isBefore P x6 x5 (fun r18 =>
        (r18 = 0 → (
         R80 x5 M7
        )) ∧ (¬ r18 = 0 → (
         R69
        )))
       ))
      ))
     ) → R49 x9) →
     (¬ x5 = (-1) → (
      w_X12_minutesOf P x6 M7 (fun r23 =>
      w_X12_minutesOf P x5 M7 (fun r26 =>
      R49 (r23 - r26)))
     )) ∧ (x5 = (-1) → (
      R49 (-1)
     ))
    ))
   ) → R19 x5 x6 M7) →
   R19 (-1) 0 (upM M 1 0 0)
  )) ∧ (r1 = 0 → (
   Q (-1) (upM M 1 0 0)
  )))
set_option maxRecDepth 20000 in
theorem c_X12_page (l : Launch) (P : jP) (a1 : Int32) (M : jM) (N : jN) (Q : Int32 → jM → Prop) (h : w_X12_page P a1 M Q) : jC l yX12_page cX12_page 5 (some .int) rm_X12_page LM [.ref (P.1 1), .int a1] P M N (jqi P (fun r M' N' => N = N' ∧ Q r M' )) := by
  refine jC_of (by decide +kernel) [(0, .ref (P.1 1)), (1, .int a1)] (Nat.le_of_ble_eq_true rfl) rfl (fun X o => ?_)
  obtain ⟨E, hE⟩ : ∃ E, E = jE X rm_X12_page (jqi P (fun r M' N' => N = N' ∧ Q r M' )) := ⟨_, rfl⟩
  rw [← hE]
  unfold w_X12_page at h
  refine j_aload_n o dX12_page_0 rfl ?_
  refine j_iconst o (v := 0) dX12_page_1 rfl ?_
  refine j_putf o (M1 := upM M 1 0 0) (N1 := N) (g := 1) (slot := 0) (ci := 12) (ty := .int) rfl jin_X12 tyX12_ok nmX12 (by decide) rfl rfl jf_X12_114 (by decide +kernel) rfl rfl (Nat.le_of_ble_eq_true rfl) (fun _ => rfl) (fun _ => rfl) (fun _ hj => upM_ne _ _ _ hj) (fun _ _ => rfl) dX12_page_2 ?_
  refine j_aload_n o dX12_page_5 rfl ?_
  refine j_iload_n o dX12_page_6 rfl ?_
  refine j_callVi (g := 1) (ci := 12) o (c_X12_isLaw l P a1 (upM M 1 0 0) N _ h) dX12_page_7 jc_X12_233 jn_X12_isLaw rfl rfl rfl (fun _ => rfl) rfl rfl (fun r1 Mz2 Nz3 h => ?_)
  obtain ⟨rfl, rfl, h⟩ := h
  refine j_if_ne o (tgt := 15) dX12_page_10 (by decide) (fun c4 => ?_) (fun c4 => ?_)
  · replace h := h.1 c4
    refine j_iconst o (v := (-1)) dX12_page_15 rfl ?_
    refine j_istore_n o [(2, .int (-1)), (0, .ref (P.1 1)), (1, .int a1)] dX12_page_16 (by decide) rfl ?_
    refine j_iconst o (v := 0) dX12_page_17 rfl ?_
    refine j_istore_n o [(3, .int 0), (2, .int (-1)), (0, .ref (P.1 1)), (1, .int a1)] dX12_page_18 (by decide) rfl ?_
    replace h := h (fun (x5 : Int32) (x6 : Int32) (M7 : jM) => J X P M7 N 0 0 E 5 19 [(0, .ref (P.1 1)), (1, .int a1), (2, .int x5), (3, .int x6)] []) (by
      intro x5 x6 M7 h
      refine j_iload_n o dX12_page_19 rfl ?_
      refine j_iconst o (v := 1) dX12_page_20 rfl ?_
      refine j_aload_n o dX12_page_21 rfl ?_
      refine j_getf o (g := 1) (slot := 26) (ci := 12) (v := .int (M7 1 26)) rfl jin_X12 (by decide) rfl jf_X12_219 (fun _ => rfl) rfl dX12_page_22 ?_
      refine j_ishl o dX12_page_25 ?_
      refine j_icmp_ge o (tgt := 86) dX12_page_26 (by decide) (fun c8 => ?_) (fun c8 => ?_)
      · replace h := h.1 c8
        refine j_iload_n o dX12_page_86 rfl ?_
        rw [hE]
        exact j_iret o dX12_page_87 ⟨_, rfl, rfl, rfl, h⟩
      · replace h := h.2 c8
        refine j_iload_n o dX12_page_29 rfl ?_
        refine j_iconst o (v := (-1)) dX12_page_30 rfl ?_
        replace h := h (fun (x9 : Int32) => J X P M7 N 0 0 E 5 49 [(0, .ref (P.1 1)), (1, .int a1), (2, .int x5), (3, .int x6)] [.int x9]) (by
          intro x9 h
          refine j_istore o [(4, .int x9), (0, .ref (P.1 1)), (1, .int a1), (2, .int x5), (3, .int x6)] dX12_page_49 (by decide) rfl ?_
          refine j_iload o dX12_page_51 rfl ?_
          replace h := h (fun (x10 : Int32) (M11 : jM) => J X P M11 N 0 0 E 5 80 [(0, .ref (P.1 1)), (1, .int a1), (2, .int x10), (3, .int x6)] []) (by
            intro x10 M11 h
            refine j_iinc o (v := x6 + 1) [(3, .int (x6 + 1)), (0, .ref (P.1 1)), (1, .int a1), (2, .int x10)] dX12_page_80 rfl rfl (by decide) rfl ?_
            refine j_goto o (tgt := 19) dX12_page_83 (by decide) ?_
            exact j_pick [1, 2, 3, 0] rfl h)
          replace h := h (J X P M7 N 0 0 E 5 69 [(0, .ref (P.1 1)), (1, .int a1), (2, .int x5), (3, .int x6)] []) (by
            intro h
            refine j_aload_n o dX12_page_69 rfl ?_
            refine j_iload_n o dX12_page_70 rfl ?_
            refine j_iload_n o dX12_page_71 rfl ?_
            refine j_callVi (g := 1) (ci := 12) o (c_X12_isTold l P a1 x6 M7 N _ h) dX12_page_72 jc_X12_333 jn_X12_isTold rfl rfl rfl (fun _ => rfl) rfl rfl (fun r12 M13 Nz14 h => ?_)
            obtain ⟨rfl, h⟩ := h
            refine j_if_eq o (tgt := 80) dX12_page_75 (by decide) (fun c15 => ?_) (fun c15 => ?_)
            · replace h := h.1 c15
              exact j_pick [0, 1, 2, 3] rfl h
            · replace h := h.2 c15
              refine j_iload_n o dX12_page_78 rfl ?_
              refine j_istore_n o [(2, .int x6), (0, .ref (P.1 1)), (1, .int a1), (3, .int x6)] dX12_page_79 (by decide) rfl ?_
              exact j_pick [1, 2, 0, 3] rfl h)
          refine j_if_lt o (tgt := 69) dX12_page_53 (by decide) (fun c16 => ?_) (fun c16 => ?_)
          · replace h := h.1 c16
            exact j_pick [1, 2, 3, 4] rfl h
          · replace h := h.2 c16
            refine j_iload o dX12_page_56 rfl ?_
            refine j_if_ne o (tgt := 80) dX12_page_58 (by decide) (fun c17 => ?_) (fun c17 => ?_)
            · replace h := h.1 c17
              exact j_pick [1, 2, 3, 4] rfl h
            · replace h := h.2 c17
              refine j_iload_n o dX12_page_61 rfl ?_
              refine j_iload_n o dX12_page_62 rfl ?_
              refine j_callSi o (c_X12_isBefore l P x6 x5 M7 N _ h) dX12_page_63 jc_X12_252 jn_X12_isBefore rfl rfl rfl rfl (fun r18 Mz19 Nz20 h => ?_)
              obtain ⟨rfl, rfl, h⟩ := h
              refine j_if_eq o (tgt := 80) dX12_page_66 (by decide) (fun c21 => ?_) (fun c21 => ?_)
              · replace h := h.1 c21
                exact j_pick [1, 2, 3, 4] rfl h
              · replace h := h.2 c21
                exact j_pick [1, 2, 3, 4] rfl h)
        refine j_icmp_ne o (tgt := 38) dX12_page_31 (by decide) (fun c22 => ?_) (fun c22 => ?_)
        · replace h := h.1 c22
          refine j_aload_n o dX12_page_38 rfl ?_
          refine j_iload_n o dX12_page_39 rfl ?_
          refine j_callVi (g := 1) (ci := 12) o (c_X12_minutesOf l P x6 M7 N _ h) dX12_page_40 jc_X12_330 jn_X12_minutesOf rfl rfl rfl (fun _ => rfl) rfl rfl (fun r23 Mz24 Nz25 h => ?_)
          obtain ⟨rfl, rfl, h⟩ := h
          refine j_aload_n o dX12_page_43 rfl ?_
          refine j_iload_n o dX12_page_44 rfl ?_
          refine j_callVi (g := 1) (ci := 12) o (c_X12_minutesOf l P x5 M7 N _ h) dX12_page_45 jc_X12_330 jn_X12_minutesOf rfl rfl rfl (fun _ => rfl) rfl rfl (fun r26 Mz27 Nz28 h => ?_)
          obtain ⟨rfl, rfl, h⟩ := h
          refine j_isub o dX12_page_48 ?_
          exact j_pick [0, 1, 2, 3] rfl h
        · replace h := h.2 c22
          refine j_iconst o (v := (-1)) dX12_page_34 rfl ?_
          refine j_goto o (tgt := 49) dX12_page_35 (by decide) ?_
          exact j_pick [0, 1, 2, 3] rfl h)
    exact j_pick [2, 3, 1, 0] rfl h
  · replace h := h.2 c4
    refine j_iconst o (v := (-1)) dX12_page_13 rfl ?_
    rw [hE]
    exact j_iret o dX12_page_14 ⟨_, rfl, rfl, rfl, h⟩

abbrev rm_X12_tells : Room := { frames := 1, cells := 0, slots := 0, locals := 22 }
def w_X12_tells (P : jP) (a1 : Int32) (a2 : Int32) (M : jM) (Q : Int32 → jM → Prop) : Prop :=
  w_X12_isQuestion P a1 (upM M 1 0 0) (fun r1 =>
  (r1 = 0 → (
   Q (-1) (upM M 1 0 0)
  )) ∧ (¬ r1 = 0 → (
   w_X12_isLaw P a2 (upM M 1 0 0) (fun r5 =>
   (¬ r5 = 0 → (
    ∀ R28 : Int32 → Int32 → Prop, (∀ (x9 : Int32) (x10 : Int32), (
     (((upM M 1 0 0) 1 2) ≤ x10 → (
      Q x9 (upM M 1 0 0)
     )) ∧ (¬ ((upM M 1 0 0) 1 2) ≤ x10 → (
      ∀ R40 : Int32 → Int32 → Prop, (∀ (x12 : Int32) (x13 : Int32), (
       (x10 ≤ x13 → (
        R28 x12 (x10 + 1)
       )) ∧ (¬ x10 ≤ x13 → (
        w_X12_saidOn P a2 x10 (upM M 1 0 0) (fun r15 =>
        w_X12_saidOn P a2 x13 (upM M 1 0 0) (fun r18 =>
        ∀ R99 : Int32 → Prop, (∀ (x21 : Int32), (
         R40 (x12 + x21) (x13 + 1)
        ) → R99 x21) →
        (r15 = r18 → (
         R99 0
        )) ∧ (¬ r15 = r18 → (
         vp_in ((512 * a1) + x10) (5120) ∧
         vp_in ((512 * a1) + x13) (5120) ∧
         (((upM M 1 0 0) 14 ((512 * a1) + x10).toNatClampNeg) = ((upM M 1 0 0) 14 ((512 * a1) + x13).toNatClampNeg) → (
          R99 0
         )) ∧ (¬ ((upM M 1 0 0) 14 ((512 * a1) + x10).toNatClampNeg) = ((upM M 1 0 0) 14 ((512 * a1) + x13).toNatClampNeg) → (
          R99 1
         ))
        ))))
       ))
      ) → R40 x12 x13) →
      R40 x9 0
     ))
    ) → R28 x9 x10) →
    R28 0 0
   )) ∧ (r5 = 0 → (
    Q (-1) (upM M 1 0 0)
   )))
  )))
set_option maxRecDepth 20000 in
theorem c_X12_tells (l : Launch) (P : jP) (a1 : Int32) (a2 : Int32) (M : jM) (N : jN) (Q : Int32 → jM → Prop) (h : w_X12_tells P a1 a2 M Q) : jC l yX12_tells cX12_tells 6 (some .int) rm_X12_tells LM [.ref (P.1 1), .int a1, .int a2] P M N (jqi P (fun r M' N' => N = N' ∧ Q r M' )) := by
  refine jC_of (by decide +kernel) [(0, .ref (P.1 1)), (1, .int a1), (2, .int a2)] (Nat.le_of_ble_eq_true rfl) rfl (fun X o => ?_)
  obtain ⟨E, hE⟩ : ∃ E, E = jE X rm_X12_tells (jqi P (fun r M' N' => N = N' ∧ Q r M' )) := ⟨_, rfl⟩
  rw [← hE]
  unfold w_X12_tells at h
  refine j_aload_n o dX12_tells_0 rfl ?_
  refine j_iconst o (v := 0) dX12_tells_1 rfl ?_
  refine j_putf o (M1 := upM M 1 0 0) (N1 := N) (g := 1) (slot := 0) (ci := 12) (ty := .int) rfl jin_X12 tyX12_ok nmX12 (by decide) rfl rfl jf_X12_114 (by decide +kernel) rfl rfl (Nat.le_of_ble_eq_true rfl) (fun _ => rfl) (fun _ => rfl) (fun _ hj => upM_ne _ _ _ hj) (fun _ _ => rfl) dX12_tells_2 ?_
  refine j_aload_n o dX12_tells_5 rfl ?_
  refine j_iload_n o dX12_tells_6 rfl ?_
  refine j_callVi (g := 1) (ci := 12) o (c_X12_isQuestion l P a1 (upM M 1 0 0) N _ h) dX12_tells_7 jc_X12_274 jn_X12_isQuestion rfl rfl rfl (fun _ => rfl) rfl rfl (fun r1 Mz2 Nz3 h => ?_)
  obtain ⟨rfl, rfl, h⟩ := h
  refine j_if_eq o (tgt := 21) dX12_tells_10 (by decide) (fun c4 => ?_) (fun c4 => ?_)
  · replace h := h.1 c4
    refine j_iconst o (v := (-1)) dX12_tells_21 rfl ?_
    rw [hE]
    exact j_iret o dX12_tells_22 ⟨_, rfl, rfl, rfl, h⟩
  · replace h := h.2 c4
    refine j_aload_n o dX12_tells_13 rfl ?_
    refine j_iload_n o dX12_tells_14 rfl ?_
    refine j_callVi (g := 1) (ci := 12) o (c_X12_isLaw l P a2 (upM M 1 0 0) N _ h) dX12_tells_15 jc_X12_233 jn_X12_isLaw rfl rfl rfl (fun _ => rfl) rfl rfl (fun r5 Mz6 Nz7 h => ?_)
    obtain ⟨rfl, rfl, h⟩ := h
    refine j_if_ne o (tgt := 23) dX12_tells_18 (by decide) (fun c8 => ?_) (fun c8 => ?_)
    · replace h := h.1 c8
      refine j_iconst o (v := 0) dX12_tells_23 rfl ?_
      refine j_istore_n o [(3, .int 0), (0, .ref (P.1 1)), (1, .int a1), (2, .int a2)] dX12_tells_24 (by decide) rfl ?_
      refine j_iconst o (v := 0) dX12_tells_25 rfl ?_
      refine j_istore o [(4, .int 0), (3, .int 0), (0, .ref (P.1 1)), (1, .int a1), (2, .int a2)] dX12_tells_26 (by decide) rfl ?_
      replace h := h (fun (x9 : Int32) (x10 : Int32) => J X P (upM M 1 0 0) N 0 0 E 6 28 [(0, .ref (P.1 1)), (1, .int a1), (2, .int a2), (3, .int x9), (4, .int x10)] []) (by
        intro x9 x10 h
        refine j_iload o dX12_tells_28 rfl ?_
        refine j_aload_n o dX12_tells_30 rfl ?_
        refine j_getf o (g := 1) (slot := 2) (ci := 12) (v := .int ((upM M 1 0 0) 1 2)) rfl jin_X12 (by decide) rfl jf_X12_111 (fun _ => rfl) rfl dX12_tells_31 ?_
        refine j_icmp_ge o (tgt := 113) dX12_tells_34 (by decide) (fun c11 => ?_) (fun c11 => ?_)
        · replace h := h.1 c11
          refine j_iload_n o dX12_tells_113 rfl ?_
          rw [hE]
          exact j_iret o dX12_tells_114 ⟨_, rfl, rfl, rfl, h⟩
        · replace h := h.2 c11
          refine j_iconst o (v := 0) dX12_tells_37 rfl ?_
          refine j_istore o [(5, .int 0), (0, .ref (P.1 1)), (1, .int a1), (2, .int a2), (3, .int x9), (4, .int x10)] dX12_tells_38 (by decide) rfl ?_
          replace h := h (fun (x12 : Int32) (x13 : Int32) => J X P (upM M 1 0 0) N 0 0 E 6 40 [(0, .ref (P.1 1)), (1, .int a1), (2, .int a2), (3, .int x12), (4, .int x10), (5, .int x13)] []) (by
            intro x12 x13 h
            refine j_iload o dX12_tells_40 rfl ?_
            refine j_iload o dX12_tells_42 rfl ?_
            refine j_icmp_ge o (tgt := 107) dX12_tells_44 (by decide) (fun c14 => ?_) (fun c14 => ?_)
            · replace h := h.1 c14
              refine j_iinc o (v := x10 + 1) [(4, .int (x10 + 1)), (0, .ref (P.1 1)), (1, .int a1), (2, .int a2), (3, .int x12), (5, .int x13)] dX12_tells_107 rfl rfl (by decide) rfl ?_
              refine j_goto o (tgt := 28) dX12_tells_110 (by decide) ?_
              exact j_pick [1, 2, 3, 4, 0] rfl h
            · replace h := h.2 c14
              refine j_iload_n o dX12_tells_47 rfl ?_
              refine j_aload_n o dX12_tells_48 rfl ?_
              refine j_iload_n o dX12_tells_49 rfl ?_
              refine j_iload o dX12_tells_50 rfl ?_
              refine j_callVi (g := 1) (ci := 12) o (c_X12_saidOn l P a2 x10 (upM M 1 0 0) N _ h) dX12_tells_52 jc_X12_239 jn_X12_saidOn rfl rfl rfl (fun _ => rfl) rfl rfl (fun r15 Mz16 Nz17 h => ?_)
              obtain ⟨rfl, rfl, h⟩ := h
              refine j_aload_n o dX12_tells_55 rfl ?_
              refine j_iload_n o dX12_tells_56 rfl ?_
              refine j_iload o dX12_tells_57 rfl ?_
              refine j_callVi (g := 1) (ci := 12) o (c_X12_saidOn l P a2 x13 (upM M 1 0 0) N _ h) dX12_tells_59 jc_X12_239 jn_X12_saidOn rfl rfl rfl (fun _ => rfl) rfl rfl (fun r18 Mz19 Nz20 h => ?_)
              obtain ⟨rfl, rfl, h⟩ := h
              replace h := h (fun (x21 : Int32) => J X P (upM M 1 0 0) N 0 0 E 6 99 [(0, .ref (P.1 1)), (1, .int a1), (2, .int a2), (4, .int x10), (5, .int x13)] [.int x21, .int x12]) (by
                intro x21 h
                refine j_iadd o dX12_tells_99 ?_
                refine j_istore_n o [(3, .int (x12 + x21)), (0, .ref (P.1 1)), (1, .int a1), (2, .int a2), (4, .int x10), (5, .int x13)] dX12_tells_100 (by decide) rfl ?_
                refine j_iinc o (v := x13 + 1) [(5, .int (x13 + 1)), (3, .int (x12 + x21)), (0, .ref (P.1 1)), (1, .int a1), (2, .int a2), (4, .int x10)] dX12_tells_101 rfl rfl (by decide) rfl ?_
                refine j_goto o (tgt := 40) dX12_tells_104 (by decide) ?_
                exact j_pick [2, 3, 4, 1, 5, 0] rfl h)
              refine j_icmp_eq o (tgt := 98) dX12_tells_62 (by decide) (fun c22 => ?_) (fun c22 => ?_)
              · replace h := h.1 c22
                refine j_iconst o (v := 0) dX12_tells_98 rfl ?_
                exact j_pick [0, 1, 2, 4, 5] rfl h
              · replace h := h.2 c22
                refine j_aload_n o dX12_tells_65 rfl ?_
                refine j_getf o (g := 1) (slot := 23) (ci := 12) (v := .ref (P.1 14)) rfl jin_X12 (by decide) rfl jf_X12_47 (fun _ => rfl) rfl dX12_tells_66 ?_
                refine j_sipush o (v := 512) dX12_tells_69 rfl ?_
                refine j_iload_n o dX12_tells_72 rfl ?_
                refine j_imul o dX12_tells_73 ?_
                refine j_iload o dX12_tells_74 rfl ?_
                refine j_iadd o dX12_tells_76 ?_
                obtain ⟨hb23, h⟩ := h
                refine j_zald o (g := 14) (fun _ => rfl) hb23 dX12_tells_77 ?_
                refine j_aload_n o dX12_tells_78 rfl ?_
                refine j_getf o (g := 1) (slot := 23) (ci := 12) (v := .ref (P.1 14)) rfl jin_X12 (by decide) rfl jf_X12_47 (fun _ => rfl) rfl dX12_tells_79 ?_
                refine j_sipush o (v := 512) dX12_tells_82 rfl ?_
                refine j_iload_n o dX12_tells_85 rfl ?_
                refine j_imul o dX12_tells_86 ?_
                refine j_iload o dX12_tells_87 rfl ?_
                refine j_iadd o dX12_tells_89 ?_
                obtain ⟨hb24, h⟩ := h
                refine j_zald o (g := 14) (fun _ => rfl) hb24 dX12_tells_90 ?_
                refine j_icmp_eq o (tgt := 98) dX12_tells_91 (by decide) (fun c25 => ?_) (fun c25 => ?_)
                · replace h := h.1 c25
                  refine j_iconst o (v := 0) dX12_tells_98 rfl ?_
                  exact j_pick [0, 1, 2, 4, 5] rfl h
                · replace h := h.2 c25
                  refine j_iconst o (v := 1) dX12_tells_94 rfl ?_
                  refine j_goto o (tgt := 99) dX12_tells_95 (by decide) ?_
                  exact j_pick [0, 1, 2, 4, 5] rfl h)
          exact j_pick [1, 2, 3, 4, 5, 0] rfl h)
      exact j_pick [2, 3, 4, 1, 0] rfl h
    · replace h := h.2 c8
      refine j_iconst o (v := (-1)) dX12_tells_21 rfl ?_
      rw [hE]
      exact j_iret o dX12_tells_22 ⟨_, rfl, rfl, rfl, h⟩

abbrev rr_X12_offFrom (d : Nat) : Room := { frames := 1 + d, cells := 0, slots := 0, locals := 23 + d * 30 }
def wb_X12_offFrom (r : (jP → Int32 → Int32 → Int32 → Int32 → Int64 → Int32 → jM → (Int64 → Prop) → Prop)) (P : jP) (a1 : Int32) (a2 : Int32) (a3 : Int32) (a4 : Int32) (a5 : Int64) (a6 : Int32) (M : jM) (Q : Int64 → Prop) : Prop :=
  (¬ (lg_cmp a5 0) = 0 → (
   (a2 < 12 → (
    w_X12_factOf P a1 a2 M (fun r3 =>
    ∀ R65 : Int64 → Prop, (∀ (x6 : Int64), (
     w_X12_has P a3 r3 (fun r7 =>
     w_X12_nextOf P a1 a2 r7 M (fun r10 =>
     r P a1 r10 a3 a4 (a5 - x6) a6 M (fun r13 =>
     w_X12_has P a3 r3 (fun r16 =>
     ∀ R113 : Int64 → Int32 → Prop, (∀ (x19 : Int64) (x20 : Int32), (
      w_X12_nextOf P a1 a2 x20 M (fun r21 =>
      r P a1 r21 a3 a4 x6 a6 M (fun r24 =>
      Q (x19 + r24)))
     ) → R113 x19 x20) →
     (¬ r16 = 0 → (
      R113 r13 0
     )) ∧ (r16 = 0 → (
      R113 r13 1
     ))))))
    ) → R65 x6) →
    (¬ r3 = a6 → (
     vp_in r3 (9) ∧
     R65 ((a5 / 10) * ((M 16 r3.toNatClampNeg).toInt64))
    )) ∧ (r3 = a6 → (
     R65 0
    )))
   )) ∧ (¬ a2 < 12 → (
    ((a2 - 100) = a4 → (
     Q 0
    )) ∧ (¬ (a2 - 100) = a4 → (
     Q a5
    ))
   ))
  )) ∧ ((lg_cmp a5 0) = 0 → (
   Q 0
  ))
def wr_X12_offFrom : Nat → (jP → Int32 → Int32 → Int32 → Int32 → Int64 → Int32 → jM → (Int64 → Prop) → Prop)
  | 0 => fun _ _ _ _ _ _ _ _ _ => False
  | d + 1 => wb_X12_offFrom (wr_X12_offFrom d)
abbrev ih_X12_offFrom (l : Launch) (d : Nat) : Prop := (∀ (P : jP) (a1 : Int32) (a2 : Int32) (a3 : Int32) (a4 : Int32) (a5 : Int64) (a6 : Int32) (M : jM) (N : jN) (Q : Int64 → Prop), (wr_X12_offFrom d) P a1 a2 a3 a4 a5 a6 M Q → jC l yX12_offFrom cX12_offFrom 11 (some .long) (rr_X12_offFrom d) LM [.ref (P.1 1), .int a1, .int a2, .int a3, .int a4, .long a5, .int a6] P M N (jql P (fun r M' N' => M = M' ∧ N = N' ∧ Q r )))
set_option maxRecDepth 20000 in
theorem cr_X12_offFrom (l : Launch) (d : Nat) (ih : ih_X12_offFrom l d) : ∀ (P : jP) (a1 : Int32) (a2 : Int32) (a3 : Int32) (a4 : Int32) (a5 : Int64) (a6 : Int32) (M : jM) (N : jN) (Q : Int64 → Prop), (wr_X12_offFrom (d + 1)) P a1 a2 a3 a4 a5 a6 M Q → jC l yX12_offFrom cX12_offFrom 11 (some .long) (rr_X12_offFrom (d + 1)) LM [.ref (P.1 1), .int a1, .int a2, .int a3, .int a4, .long a5, .int a6] P M N (jql P (fun r M' N' => M = M' ∧ N = N' ∧ Q r )) := by
  intro P a1 a2 a3 a4 a5 a6 M N Q h
  have h : wb_X12_offFrom (wr_X12_offFrom d) P a1 a2 a3 a4 a5 a6 M Q := h
  refine jC_of (by decide +kernel) [(0, .ref (P.1 1)), (1, .int a1), (2, .int a2), (3, .int a3), (4, .int a4), (5, .long a5), (7, .int a6)] (Nat.le_of_ble_eq_true rfl) rfl (fun X o => ?_)
  obtain ⟨E, hE⟩ : ∃ E, E = jE X (rr_X12_offFrom (d + 1)) (jql P (fun r M' N' => M = M' ∧ N = N' ∧ Q r )) := ⟨_, rfl⟩
  rw [← hE]
  unfold wb_X12_offFrom at h
  refine j_lload o dX12_offFrom_0 rfl ?_
  refine j_lconst o (v := 0) dX12_offFrom_2 rfl ?_
  refine j_lcmp o dX12_offFrom_3 ?_
  refine j_if_ne o (tgt := 9) dX12_offFrom_4 (by decide) (fun c1 => ?_) (fun c1 => ?_)
  · replace h := h.1 c1
    refine j_iload_n o dX12_offFrom_9 rfl ?_
    refine j_bipush o (v := 12) dX12_offFrom_10 rfl ?_
    refine j_icmp_lt o (tgt := 31) dX12_offFrom_12 (by decide) (fun c2 => ?_) (fun c2 => ?_)
    · replace h := h.1 c2
      refine j_aload_n o dX12_offFrom_31 rfl ?_
      refine j_iload_n o dX12_offFrom_32 rfl ?_
      refine j_iload_n o dX12_offFrom_33 rfl ?_
      refine j_callVi (g := 1) (ci := 12) o (c_X12_factOf l P a1 a2 M N _ h) dX12_offFrom_34 jc_X12_255 jn_X12_factOf rfl (jRmb_mk rfl rfl (by dsimp only [rr_X12_offFrom, rm_X12_factOf]; omega) (by dsimp only [rr_X12_offFrom, rm_X12_factOf]; omega)) rfl (fun _ => rfl) rfl rfl (fun r3 Mz4 Nz5 h => ?_)
      obtain ⟨rfl, rfl, h⟩ := h
      refine j_istore o [(8, .int r3), (0, .ref (P.1 1)), (1, .int a1), (2, .int a2), (3, .int a3), (4, .int a4), (5, .long a5), (7, .int a6)] dX12_offFrom_37 (by decide) rfl ?_
      refine j_iload o dX12_offFrom_39 rfl ?_
      refine j_iload o dX12_offFrom_41 rfl ?_
      replace h := h (fun (x6 : Int64) => J X P M N 0 0 E 11 65 [(0, .ref (P.1 1)), (1, .int a1), (2, .int a2), (3, .int a3), (4, .int a4), (5, .long a5), (7, .int a6), (8, .int r3)] [.long x6]) (by
        intro x6 h
        refine j_lstore o [(9, .long x6), (0, .ref (P.1 1)), (1, .int a1), (2, .int a2), (3, .int a3), (4, .int a4), (5, .long a5), (7, .int a6), (8, .int r3)] dX12_offFrom_65 (by decide) rfl ?_
        refine j_aload_n o dX12_offFrom_67 rfl ?_
        refine j_iload_n o dX12_offFrom_68 rfl ?_
        refine j_aload_n o dX12_offFrom_69 rfl ?_
        refine j_iload_n o dX12_offFrom_70 rfl ?_
        refine j_iload_n o dX12_offFrom_71 rfl ?_
        refine j_iload_n o dX12_offFrom_72 rfl ?_
        refine j_iload o dX12_offFrom_73 rfl ?_
        refine j_callSi o (c_X12_has l P a3 r3 M N _ h) dX12_offFrom_75 jc_X12_157 jn_X12_has rfl (jRmb_mk rfl rfl (by dsimp only [rr_X12_offFrom, rm_X12_has]; omega) (by dsimp only [rr_X12_offFrom, rm_X12_has]; omega)) rfl rfl (fun r7 Mz8 Nz9 h => ?_)
        obtain ⟨rfl, rfl, h⟩ := h
        refine j_callVi (g := 1) (ci := 12) o (c_X12_nextOf l P a1 a2 r7 M N _ h) dX12_offFrom_78 jc_X12_258 jn_X12_nextOf rfl (jRmb_mk rfl rfl (by dsimp only [rr_X12_offFrom, rm_X12_nextOf]; omega) (by dsimp only [rr_X12_offFrom, rm_X12_nextOf]; omega)) rfl (fun _ => rfl) rfl rfl (fun r10 Mz11 Nz12 h => ?_)
        obtain ⟨rfl, rfl, h⟩ := h
        refine j_iload_n o dX12_offFrom_81 rfl ?_
        refine j_iload o dX12_offFrom_82 rfl ?_
        refine j_lload o dX12_offFrom_84 rfl ?_
        refine j_lload o dX12_offFrom_86 rfl ?_
        refine j_lsub o dX12_offFrom_88 ?_
        refine j_iload o dX12_offFrom_89 rfl ?_
        refine j_callVl (g := 1) (ci := 12) o (ih P a1 r10 a3 a4 (a5 - x6) a6 M N _ h) dX12_offFrom_91 jc_X12_336 jn_X12_offFrom rfl (jRmb_mk rfl rfl (by dsimp only [rr_X12_offFrom, rr_X12_offFrom]; omega) (by dsimp only [rr_X12_offFrom, rr_X12_offFrom]; omega)) rfl (fun _ => rfl) rfl rfl (fun r13 Mz14 Nz15 h => ?_)
        obtain ⟨rfl, rfl, h⟩ := h
        refine j_aload_n o dX12_offFrom_94 rfl ?_
        refine j_iload_n o dX12_offFrom_95 rfl ?_
        refine j_aload_n o dX12_offFrom_96 rfl ?_
        refine j_iload_n o dX12_offFrom_97 rfl ?_
        refine j_iload_n o dX12_offFrom_98 rfl ?_
        refine j_iload_n o dX12_offFrom_99 rfl ?_
        refine j_iload o dX12_offFrom_100 rfl ?_
        refine j_callSi o (c_X12_has l P a3 r3 M N _ h) dX12_offFrom_102 jc_X12_157 jn_X12_has rfl (jRmb_mk rfl rfl (by dsimp only [rr_X12_offFrom, rm_X12_has]; omega) (by dsimp only [rr_X12_offFrom, rm_X12_has]; omega)) rfl rfl (fun r16 Mz17 Nz18 h => ?_)
        obtain ⟨rfl, rfl, h⟩ := h
        replace h := h (fun (x19 : Int64) (x20 : Int32) => J X P M N 0 0 E 11 113 [(3, .int a3), (4, .int a4), (7, .int a6), (9, .long x6)] [.int x20, .int a2, .int a1, .ref (P.1 1), .int a1, .ref (P.1 1), .long x19]) (by
          intro x19 x20 h
          refine j_callVi (g := 1) (ci := 12) o (c_X12_nextOf l P a1 a2 x20 M N _ h) dX12_offFrom_113 jc_X12_258 jn_X12_nextOf rfl (jRmb_mk rfl rfl (by dsimp only [rr_X12_offFrom, rm_X12_nextOf]; omega) (by dsimp only [rr_X12_offFrom, rm_X12_nextOf]; omega)) rfl (fun _ => rfl) rfl rfl (fun r21 Mz22 Nz23 h => ?_)
          obtain ⟨rfl, rfl, h⟩ := h
          refine j_iload_n o dX12_offFrom_116 rfl ?_
          refine j_iload o dX12_offFrom_117 rfl ?_
          refine j_lload o dX12_offFrom_119 rfl ?_
          refine j_iload o dX12_offFrom_121 rfl ?_
          refine j_callVl (g := 1) (ci := 12) o (ih P a1 r21 a3 a4 x6 a6 M N _ h) dX12_offFrom_123 jc_X12_336 jn_X12_offFrom rfl (jRmb_mk rfl rfl (by dsimp only [rr_X12_offFrom, rr_X12_offFrom]; omega) (by dsimp only [rr_X12_offFrom, rr_X12_offFrom]; omega)) rfl (fun _ => rfl) rfl rfl (fun r24 Mz25 Nz26 h => ?_)
          obtain ⟨rfl, rfl, h⟩ := h
          refine j_ladd o dX12_offFrom_126 ?_
          rw [hE]
          exact j_lret o dX12_offFrom_127 ⟨_, rfl, rfl, rfl, rfl, h⟩)
        refine j_if_ne o (tgt := 112) dX12_offFrom_105 (by decide) (fun c27 => ?_) (fun c27 => ?_)
        · replace h := h.1 c27
          refine j_iconst o (v := 0) dX12_offFrom_112 rfl ?_
          exact j_pick [4, 5, 7, 0] rfl h
        · replace h := h.2 c27
          refine j_iconst o (v := 1) dX12_offFrom_108 rfl ?_
          refine j_goto o (tgt := 113) dX12_offFrom_109 (by decide) ?_
          exact j_pick [4, 5, 7, 0] rfl h)
      refine j_icmp_ne o (tgt := 50) dX12_offFrom_43 (by decide) (fun c28 => ?_) (fun c28 => ?_)
      · replace h := h.1 c28
        refine j_lload o dX12_offFrom_50 rfl ?_
        refine j_ldc2 o jk_X12_283 dX12_offFrom_52 ?_
        refine j_ldiv o dX12_offFrom_55 (by decide) ?_
        refine j_aload_n o dX12_offFrom_56 rfl ?_
        refine j_getf o (g := 1) (slot := 28) (ci := 12) (v := .ref (P.1 16)) rfl jin_X12 (by decide) rfl jf_X12_54 (fun _ => rfl) rfl dX12_offFrom_57 ?_
        refine j_iload o dX12_offFrom_60 rfl ?_
        obtain ⟨hb29, h⟩ := h
        refine j_iald o (g := 16) (fun _ => rfl) hb29 dX12_offFrom_62 ?_
        refine j_i2l o dX12_offFrom_63 ?_
        refine j_lmul o dX12_offFrom_64 ?_
        exact j_pick [1, 2, 3, 4, 5, 6, 7, 0] rfl h
      · replace h := h.2 c28
        refine j_lconst o (v := 0) dX12_offFrom_46 rfl ?_
        refine j_goto o (tgt := 65) dX12_offFrom_47 (by decide) ?_
        exact j_pick [1, 2, 3, 4, 5, 6, 7, 0] rfl h
    · replace h := h.2 c2
      refine j_iload_n o dX12_offFrom_15 rfl ?_
      refine j_bipush o (v := 100) dX12_offFrom_16 rfl ?_
      refine j_isub o dX12_offFrom_18 ?_
      refine j_iload o dX12_offFrom_19 rfl ?_
      refine j_icmp_eq o (tgt := 29) dX12_offFrom_21 (by decide) (fun c30 => ?_) (fun c30 => ?_)
      · replace h := h.1 c30
        refine j_lconst o (v := 0) dX12_offFrom_29 rfl ?_
        rw [hE]
        exact j_lret o dX12_offFrom_30 ⟨_, rfl, rfl, rfl, rfl, h⟩
      · replace h := h.2 c30
        refine j_lload o dX12_offFrom_24 rfl ?_
        refine j_goto o (tgt := 30) dX12_offFrom_26 (by decide) ?_
        rw [hE]
        exact j_lret o dX12_offFrom_30 ⟨_, rfl, rfl, rfl, rfl, h⟩
  · replace h := h.2 c1
    refine j_lconst o (v := 0) dX12_offFrom_7 rfl ?_
    rw [hE]
    exact j_lret o dX12_offFrom_8 ⟨_, rfl, rfl, rfl, rfl, h⟩
theorem cr_X12_offFrom_all (l : Launch) : ∀ d, ih_X12_offFrom l d
  | 0 => fun _ _ _ _ _ _ _ _ _ _ h => h.elim
  | d + 1 => cr_X12_offFrom l d (cr_X12_offFrom_all l d)
abbrev rm_X12_offFrom : Room := rr_X12_offFrom 20
def w_X12_offFrom (P : jP) (a1 : Int32) (a2 : Int32) (a3 : Int32) (a4 : Int32) (a5 : Int64) (a6 : Int32) (M : jM) (Q : Int64 → Prop) : Prop := (wr_X12_offFrom 20) P a1 a2 a3 a4 a5 a6 M Q
theorem c_X12_offFrom (l : Launch) (P : jP) (a1 : Int32) (a2 : Int32) (a3 : Int32) (a4 : Int32) (a5 : Int64) (a6 : Int32) (M : jM) (N : jN) (Q : Int64 → Prop) (h : w_X12_offFrom P a1 a2 a3 a4 a5 a6 M Q) : jC l yX12_offFrom cX12_offFrom 11 (some .long) rm_X12_offFrom LM [.ref (P.1 1), .int a1, .int a2, .int a3, .int a4, .long a5, .int a6] P M N (jql P (fun r M' N' => M = M' ∧ N = N' ∧ Q r )) := (cr_X12_offFrom_all l 20) P a1 a2 a3 a4 a5 a6 M N Q h

abbrev rm_X12_off : Room := { frames := 22, cells := 0, slots := 0, locals := 653 }
def w_X12_off (P : jP) (a1 : Int32) (a2 : Int32) (a3 : Int32) (M : jM) (Q : Int64 → jM → Prop) : Prop :=
  w_X12_isForm P a1 (upM M 1 0 0) (fun r1 =>
  (r1 = 0 → (
   Q (-1) (upM M 1 0 0)
  )) ∧ (¬ r1 = 0 → (
   w_X12_isLaw P a2 (upM M 1 0 0) (fun r5 =>
   (r5 = 0 → (
    Q (-1) (upM M 1 0 0)
   )) ∧ (¬ r5 = 0 → (
    w_X12_isCase P a3 (upM M 1 0 0) (fun r9 =>
    (r9 = 0 → (
     Q (-1) (upM M 1 0 0)
    )) ∧ (¬ r9 = 0 → (
     w_X12_saidOn P a2 a3 (upM M 1 0 0) (fun r13 =>
     w_X12_offFrom P a1 0 a3 r13 1000000000000 (-1) (upM M 1 0 0) (fun r16 =>
     Q r16 (upM M 1 0 0)))
    )))
   )))
  )))
set_option maxRecDepth 20000 in
theorem c_X12_off (l : Launch) (P : jP) (a1 : Int32) (a2 : Int32) (a3 : Int32) (M : jM) (N : jN) (Q : Int64 → jM → Prop) (h : w_X12_off P a1 a2 a3 M Q) : jC l yX12_off cX12_off 4 (some .long) rm_X12_off LM [.ref (P.1 1), .int a1, .int a2, .int a3] P M N (jql P (fun r M' N' => N = N' ∧ Q r M' )) := by
  refine jC_of (by decide +kernel) [(0, .ref (P.1 1)), (1, .int a1), (2, .int a2), (3, .int a3)] (Nat.le_of_ble_eq_true rfl) rfl (fun X o => ?_)
  obtain ⟨E, hE⟩ : ∃ E, E = jE X rm_X12_off (jql P (fun r M' N' => N = N' ∧ Q r M' )) := ⟨_, rfl⟩
  rw [← hE]
  unfold w_X12_off at h
  refine j_aload_n o dX12_off_0 rfl ?_
  refine j_iconst o (v := 0) dX12_off_1 rfl ?_
  refine j_putf o (M1 := upM M 1 0 0) (N1 := N) (g := 1) (slot := 0) (ci := 12) (ty := .int) rfl jin_X12 tyX12_ok nmX12 (by decide) rfl rfl jf_X12_114 (by decide +kernel) rfl rfl (Nat.le_of_ble_eq_true rfl) (fun _ => rfl) (fun _ => rfl) (fun _ hj => upM_ne _ _ _ hj) (fun _ _ => rfl) dX12_off_2 ?_
  refine j_aload_n o dX12_off_5 rfl ?_
  refine j_iload_n o dX12_off_6 rfl ?_
  refine j_callVi (g := 1) (ci := 12) o (c_X12_isForm l P a1 (upM M 1 0 0) N _ h) dX12_off_7 jc_X12_262 jn_X12_isForm rfl rfl rfl (fun _ => rfl) rfl rfl (fun r1 Mz2 Nz3 h => ?_)
  obtain ⟨rfl, rfl, h⟩ := h
  refine j_if_eq o (tgt := 49) dX12_off_10 (by decide) (fun c4 => ?_) (fun c4 => ?_)
  · replace h := h.1 c4
    refine j_ldc2 o jk_X12_289 dX12_off_49 ?_
    rw [hE]
    exact j_lret o dX12_off_52 ⟨_, rfl, rfl, rfl, h⟩
  · replace h := h.2 c4
    refine j_aload_n o dX12_off_13 rfl ?_
    refine j_iload_n o dX12_off_14 rfl ?_
    refine j_callVi (g := 1) (ci := 12) o (c_X12_isLaw l P a2 (upM M 1 0 0) N _ h) dX12_off_15 jc_X12_233 jn_X12_isLaw rfl rfl rfl (fun _ => rfl) rfl rfl (fun r5 Mz6 Nz7 h => ?_)
    obtain ⟨rfl, rfl, h⟩ := h
    refine j_if_eq o (tgt := 49) dX12_off_18 (by decide) (fun c8 => ?_) (fun c8 => ?_)
    · replace h := h.1 c8
      refine j_ldc2 o jk_X12_289 dX12_off_49 ?_
      rw [hE]
      exact j_lret o dX12_off_52 ⟨_, rfl, rfl, rfl, h⟩
    · replace h := h.2 c8
      refine j_aload_n o dX12_off_21 rfl ?_
      refine j_iload_n o dX12_off_22 rfl ?_
      refine j_callVi (g := 1) (ci := 12) o (c_X12_isCase l P a3 (upM M 1 0 0) N _ h) dX12_off_23 jc_X12_236 jn_X12_isCase rfl rfl rfl (fun _ => rfl) rfl rfl (fun r9 Mz10 Nz11 h => ?_)
      obtain ⟨rfl, rfl, h⟩ := h
      refine j_if_eq o (tgt := 49) dX12_off_26 (by decide) (fun c12 => ?_) (fun c12 => ?_)
      · replace h := h.1 c12
        refine j_ldc2 o jk_X12_289 dX12_off_49 ?_
        rw [hE]
        exact j_lret o dX12_off_52 ⟨_, rfl, rfl, rfl, h⟩
      · replace h := h.2 c12
        refine j_aload_n o dX12_off_29 rfl ?_
        refine j_iload_n o dX12_off_30 rfl ?_
        refine j_iconst o (v := 0) dX12_off_31 rfl ?_
        refine j_iload_n o dX12_off_32 rfl ?_
        refine j_aload_n o dX12_off_33 rfl ?_
        refine j_iload_n o dX12_off_34 rfl ?_
        refine j_iload_n o dX12_off_35 rfl ?_
        refine j_callVi (g := 1) (ci := 12) o (c_X12_saidOn l P a2 a3 (upM M 1 0 0) N _ h) dX12_off_36 jc_X12_239 jn_X12_saidOn rfl rfl rfl (fun _ => rfl) rfl rfl (fun r13 Mz14 Nz15 h => ?_)
        obtain ⟨rfl, rfl, h⟩ := h
        refine j_ldc2 o jk_X12_340 dX12_off_39 ?_
        refine j_iconst o (v := (-1)) dX12_off_42 rfl ?_
        refine j_callVl (g := 1) (ci := 12) o (c_X12_offFrom l P a1 0 a3 r13 1000000000000 (-1) (upM M 1 0 0) N _ h) dX12_off_43 jc_X12_336 jn_X12_offFrom rfl rfl rfl (fun _ => rfl) rfl rfl (fun r16 Mz17 Nz18 h => ?_)
        obtain ⟨rfl, rfl, h⟩ := h
        refine j_goto o (tgt := 52) dX12_off_46 (by decide) ?_
        rw [hE]
        exact j_lret o dX12_off_52 ⟨_, rfl, rfl, rfl, h⟩

abbrev rm_X12_weak : Room := { frames := 22, cells := 0, slots := 0, locals := 653 }
def w_X12_weak (P : jP) (a1 : Int32) (a2 : Int32) (M : jM) (Q : Int32 → jM → Prop) : Prop :=
  w_X12_isForm P a1 (upM M 1 0 0) (fun r1 =>
  (r1 = 0 → (
   Q (-1) (upM M 1 0 0)
  )) ∧ (¬ r1 = 0 → (
   w_X12_isLaw P a2 (upM M 1 0 0) (fun r5 =>
   (¬ r5 = 0 → (
    ∀ R31 : Int32 → Int64 → Int32 → Prop, (∀ (x9 : Int32) (x10 : Int64) (x11 : Int32), (
     (((upM M 1 0 0) 1 1) ≤ x11 → (
      Q x9 (upM M 1 0 0)
     )) ∧ (¬ ((upM M 1 0 0) 1 1) ≤ x11 → (
      ∀ R46 : Int64 → Int32 → Prop, (∀ (x13 : Int64) (x14 : Int32), (
       (((upM M 1 0 0) 1 2) ≤ x14 → (
        ∀ R109 : Int32 → Int64 → Prop, (∀ (x16 : Int32) (x17 : Int64), (
         R31 x16 x17 (x11 + 1)
        ) → R109 x16 x17) →
        ∀ R102 : Prop, ((
         R109 x11 x13
        ) → R102) →
        (x9 = (-1) → (
         R102
        )) ∧ (¬ x9 = (-1) → (
         ((lg_cmp x13 x10) < 0 → (
          R102
         )) ∧ (¬ (lg_cmp x13 x10) < 0 → (
          R109 x9 x10
         ))
        ))
       )) ∧ (¬ ((upM M 1 0 0) 1 2) ≤ x14 → (
        w_X12_saidOn P a2 x14 (upM M 1 0 0) (fun r20 =>
        w_X12_offFrom P a1 0 x14 r20 1000000000000 x11 (upM M 1 0 0) (fun r23 =>
        R46 (x13 + r23) (x14 + 1)))
       ))
      ) → R46 x13 x14) →
      R46 0 0
     ))
    ) → R31 x9 x10 x11) →
    R31 (-1) 0 0
   )) ∧ (r5 = 0 → (
    Q (-1) (upM M 1 0 0)
   )))
  )))
set_option maxRecDepth 20000 in
theorem c_X12_weak (l : Launch) (P : jP) (a1 : Int32) (a2 : Int32) (M : jM) (N : jN) (Q : Int32 → jM → Prop) (h : w_X12_weak P a1 a2 M Q) : jC l yX12_weak cX12_weak 10 (some .int) rm_X12_weak LM [.ref (P.1 1), .int a1, .int a2] P M N (jqi P (fun r M' N' => N = N' ∧ Q r M' )) := by
  refine jC_of (by decide +kernel) [(0, .ref (P.1 1)), (1, .int a1), (2, .int a2)] (Nat.le_of_ble_eq_true rfl) rfl (fun X o => ?_)
  obtain ⟨E, hE⟩ : ∃ E, E = jE X rm_X12_weak (jqi P (fun r M' N' => N = N' ∧ Q r M' )) := ⟨_, rfl⟩
  rw [← hE]
  unfold w_X12_weak at h
  refine j_aload_n o dX12_weak_0 rfl ?_
  refine j_iconst o (v := 0) dX12_weak_1 rfl ?_
  refine j_putf o (M1 := upM M 1 0 0) (N1 := N) (g := 1) (slot := 0) (ci := 12) (ty := .int) rfl jin_X12 tyX12_ok nmX12 (by decide) rfl rfl jf_X12_114 (by decide +kernel) rfl rfl (Nat.le_of_ble_eq_true rfl) (fun _ => rfl) (fun _ => rfl) (fun _ hj => upM_ne _ _ _ hj) (fun _ _ => rfl) dX12_weak_2 ?_
  refine j_aload_n o dX12_weak_5 rfl ?_
  refine j_iload_n o dX12_weak_6 rfl ?_
  refine j_callVi (g := 1) (ci := 12) o (c_X12_isForm l P a1 (upM M 1 0 0) N _ h) dX12_weak_7 jc_X12_262 jn_X12_isForm rfl rfl rfl (fun _ => rfl) rfl rfl (fun r1 Mz2 Nz3 h => ?_)
  obtain ⟨rfl, rfl, h⟩ := h
  refine j_if_eq o (tgt := 21) dX12_weak_10 (by decide) (fun c4 => ?_) (fun c4 => ?_)
  · replace h := h.1 c4
    refine j_iconst o (v := (-1)) dX12_weak_21 rfl ?_
    rw [hE]
    exact j_iret o dX12_weak_22 ⟨_, rfl, rfl, rfl, h⟩
  · replace h := h.2 c4
    refine j_aload_n o dX12_weak_13 rfl ?_
    refine j_iload_n o dX12_weak_14 rfl ?_
    refine j_callVi (g := 1) (ci := 12) o (c_X12_isLaw l P a2 (upM M 1 0 0) N _ h) dX12_weak_15 jc_X12_233 jn_X12_isLaw rfl rfl rfl (fun _ => rfl) rfl rfl (fun r5 Mz6 Nz7 h => ?_)
    obtain ⟨rfl, rfl, h⟩ := h
    refine j_if_ne o (tgt := 23) dX12_weak_18 (by decide) (fun c8 => ?_) (fun c8 => ?_)
    · replace h := h.1 c8
      refine j_iconst o (v := (-1)) dX12_weak_23 rfl ?_
      refine j_istore_n o [(3, .int (-1)), (0, .ref (P.1 1)), (1, .int a1), (2, .int a2)] dX12_weak_24 (by decide) rfl ?_
      refine j_lconst o (v := 0) dX12_weak_25 rfl ?_
      refine j_lstore o [(4, .long 0), (3, .int (-1)), (0, .ref (P.1 1)), (1, .int a1), (2, .int a2)] dX12_weak_26 (by decide) rfl ?_
      refine j_iconst o (v := 0) dX12_weak_28 rfl ?_
      refine j_istore o [(6, .int 0), (4, .long 0), (3, .int (-1)), (0, .ref (P.1 1)), (1, .int a1), (2, .int a2)] dX12_weak_29 (by decide) rfl ?_
      replace h := h (fun (x9 : Int32) (x10 : Int64) (x11 : Int32) => J X P (upM M 1 0 0) N 0 0 E 10 31 [(0, .ref (P.1 1)), (1, .int a1), (2, .int a2), (3, .int x9), (4, .long x10), (6, .int x11)] []) (by
        intro x9 x10 x11 h
        refine j_iload o dX12_weak_31 rfl ?_
        refine j_aload_n o dX12_weak_33 rfl ?_
        refine j_getf o (g := 1) (slot := 1) (ci := 12) (v := .int ((upM M 1 0 0) 1 1)) rfl jin_X12 (by decide) rfl jf_X12_107 (fun _ => rfl) rfl dX12_weak_34 ?_
        refine j_icmp_ge o (tgt := 115) dX12_weak_37 (by decide) (fun c12 => ?_) (fun c12 => ?_)
        · replace h := h.1 c12
          refine j_iload_n o dX12_weak_115 rfl ?_
          rw [hE]
          exact j_iret o dX12_weak_116 ⟨_, rfl, rfl, rfl, h⟩
        · replace h := h.2 c12
          refine j_lconst o (v := 0) dX12_weak_40 rfl ?_
          refine j_lstore o [(7, .long 0), (0, .ref (P.1 1)), (1, .int a1), (2, .int a2), (3, .int x9), (4, .long x10), (6, .int x11)] dX12_weak_41 (by decide) rfl ?_
          refine j_iconst o (v := 0) dX12_weak_43 rfl ?_
          refine j_istore o [(9, .int 0), (7, .long 0), (0, .ref (P.1 1)), (1, .int a1), (2, .int a2), (3, .int x9), (4, .long x10), (6, .int x11)] dX12_weak_44 (by decide) rfl ?_
          replace h := h (fun (x13 : Int64) (x14 : Int32) => J X P (upM M 1 0 0) N 0 0 E 10 46 [(0, .ref (P.1 1)), (1, .int a1), (2, .int a2), (3, .int x9), (4, .long x10), (6, .int x11), (7, .long x13), (9, .int x14)] []) (by
            intro x13 x14 h
            refine j_iload o dX12_weak_46 rfl ?_
            refine j_aload_n o dX12_weak_48 rfl ?_
            refine j_getf o (g := 1) (slot := 2) (ci := 12) (v := .int ((upM M 1 0 0) 1 2)) rfl jin_X12 (by decide) rfl jf_X12_111 (fun _ => rfl) rfl dX12_weak_49 ?_
            refine j_icmp_ge o (tgt := 86) dX12_weak_52 (by decide) (fun c15 => ?_) (fun c15 => ?_)
            · replace h := h.1 c15
              refine j_iload_n o dX12_weak_86 rfl ?_
              refine j_iconst o (v := (-1)) dX12_weak_87 rfl ?_
              replace h := h (fun (x16 : Int32) (x17 : Int64) => J X P (upM M 1 0 0) N 0 0 E 10 109 [(0, .ref (P.1 1)), (1, .int a1), (2, .int a2), (3, .int x16), (4, .long x17), (6, .int x11)] []) (by
                intro x16 x17 h
                refine j_iinc o (v := x11 + 1) [(6, .int (x11 + 1)), (0, .ref (P.1 1)), (1, .int a1), (2, .int a2), (3, .int x16), (4, .long x17)] dX12_weak_109 rfl rfl (by decide) rfl ?_
                refine j_goto o (tgt := 31) dX12_weak_112 (by decide) ?_
                exact j_pick [1, 2, 3, 4, 5, 0] rfl h)
              replace h := h (J X P (upM M 1 0 0) N 0 0 E 10 102 [(0, .ref (P.1 1)), (1, .int a1), (2, .int a2), (6, .int x11), (7, .long x13)] []) (by
                intro h
                refine j_iload o dX12_weak_102 rfl ?_
                refine j_istore_n o [(3, .int x11), (0, .ref (P.1 1)), (1, .int a1), (2, .int a2), (6, .int x11), (7, .long x13)] dX12_weak_104 (by decide) rfl ?_
                refine j_lload o dX12_weak_105 rfl ?_
                refine j_lstore o [(4, .long x13), (3, .int x11), (0, .ref (P.1 1)), (1, .int a1), (2, .int a2), (6, .int x11), (7, .long x13)] dX12_weak_107 (by decide) rfl ?_
                exact j_pick [2, 3, 4, 1, 0, 5] rfl h)
              refine j_icmp_eq o (tgt := 102) dX12_weak_88 (by decide) (fun c18 => ?_) (fun c18 => ?_)
              · replace h := h.1 c18
                exact j_pick [0, 1, 2, 5, 6] rfl h
              · replace h := h.2 c18
                refine j_lload o dX12_weak_91 rfl ?_
                refine j_lload o dX12_weak_93 rfl ?_
                refine j_lcmp o dX12_weak_95 ?_
                refine j_if_lt o (tgt := 102) dX12_weak_96 (by decide) (fun c19 => ?_) (fun c19 => ?_)
                · replace h := h.1 c19
                  exact j_pick [0, 1, 2, 5, 6] rfl h
                · replace h := h.2 c19
                  refine j_goto o (tgt := 109) dX12_weak_99 (by decide) ?_
                  exact j_pick [0, 1, 2, 3, 4, 5] rfl h
            · replace h := h.2 c15
              refine j_lload o dX12_weak_55 rfl ?_
              refine j_aload_n o dX12_weak_57 rfl ?_
              refine j_iload_n o dX12_weak_58 rfl ?_
              refine j_iconst o (v := 0) dX12_weak_59 rfl ?_
              refine j_iload o dX12_weak_60 rfl ?_
              refine j_aload_n o dX12_weak_62 rfl ?_
              refine j_iload_n o dX12_weak_63 rfl ?_
              refine j_iload o dX12_weak_64 rfl ?_
              refine j_callVi (g := 1) (ci := 12) o (c_X12_saidOn l P a2 x14 (upM M 1 0 0) N _ h) dX12_weak_66 jc_X12_239 jn_X12_saidOn rfl rfl rfl (fun _ => rfl) rfl rfl (fun r20 Mz21 Nz22 h => ?_)
              obtain ⟨rfl, rfl, h⟩ := h
              refine j_ldc2 o jk_X12_340 dX12_weak_69 ?_
              refine j_iload o dX12_weak_72 rfl ?_
              refine j_callVl (g := 1) (ci := 12) o (c_X12_offFrom l P a1 0 x14 r20 1000000000000 x11 (upM M 1 0 0) N _ h) dX12_weak_74 jc_X12_336 jn_X12_offFrom rfl rfl rfl (fun _ => rfl) rfl rfl (fun r23 Mz24 Nz25 h => ?_)
              obtain ⟨rfl, rfl, h⟩ := h
              refine j_ladd o dX12_weak_77 ?_
              refine j_lstore o [(7, .long (x13 + r23)), (0, .ref (P.1 1)), (1, .int a1), (2, .int a2), (3, .int x9), (4, .long x10), (6, .int x11), (9, .int x14)] dX12_weak_78 (by decide) rfl ?_
              refine j_iinc o (v := x14 + 1) [(9, .int (x14 + 1)), (7, .long (x13 + r23)), (0, .ref (P.1 1)), (1, .int a1), (2, .int a2), (3, .int x9), (4, .long x10), (6, .int x11)] dX12_weak_80 rfl rfl (by decide) rfl ?_
              refine j_goto o (tgt := 46) dX12_weak_83 (by decide) ?_
              exact j_pick [2, 3, 4, 5, 6, 7, 1, 0] rfl h)
          exact j_pick [2, 3, 4, 5, 6, 7, 1, 0] rfl h)
      exact j_pick [3, 4, 5, 2, 1, 0] rfl h
    · replace h := h.2 c8
      refine j_iconst o (v := (-1)) dX12_weak_21 rfl ?_
      rw [hE]
      exact j_iret o dX12_weak_22 ⟨_, rfl, rfl, rfl, h⟩

abbrev rm_X12_draw : Room := { frames := 0, cells := 0, slots := 0, locals := 0 }
def w_X12_draw (P : jP) (a1 : Int32) (N : jN) (Q : Int32 → jN → Prop) : Prop :=
  ∀ N1 : jN, N1 = upN N 1 37 (((N 1 37) * 6364136223846793005) + 1442695040888963407) →
  ¬ a1.toInt64 = 0 ∧
  Q (((jlushr (N1 1 37) 33) - (jlushr (N1 1 37) 33) / a1.toInt64 * a1.toInt64).toInt32) N1
set_option maxRecDepth 20000 in
theorem c_X12_draw (l : Launch) (P : jP) (a1 : Int32) (M : jM) (N : jN) (Q : Int32 → jN → Prop) (h : w_X12_draw P a1 N Q) : jC l yX12_draw cX12_draw 2 (some .int) rm_X12_draw LM [.ref (P.1 1), .int a1] P M N (jqi P (fun r M' N' => M = M' ∧ Q r N')) := by
  refine jC_of (by decide +kernel) [(0, .ref (P.1 1)), (1, .int a1)] (Nat.le_of_ble_eq_true rfl) rfl (fun X o => ?_)
  obtain ⟨E, hE⟩ : ∃ E, E = jE X rm_X12_draw (jqi P (fun r M' N' => M = M' ∧ Q r N')) := ⟨_, rfl⟩
  rw [← hE]
  unfold w_X12_draw at h
  refine j_aload_n o dX12_draw_0 rfl ?_
  refine j_aload_n o dX12_draw_1 rfl ?_
  refine j_getf o (g := 1) (slot := 37) (ci := 12) (v := .long (N 1 37)) rfl jin_X12 (by decide) rfl jf_X12_342 (fun _ => rfl) rfl dX12_draw_2 ?_
  refine j_ldc2 o jk_X12_346 dX12_draw_5 ?_
  refine j_lmul o dX12_draw_8 ?_
  refine j_ldc2 o jk_X12_348 dX12_draw_9 ?_
  refine j_ladd o dX12_draw_12 ?_
  refine j_putf o (N1 := upN N 1 37 (((N 1 37) * 6364136223846793005) + 1442695040888963407)) (M1 := M) (g := 1) (slot := 37) (ci := 12) (ty := .long) rfl jin_X12 tyX12_ok nmX12 (by decide) rfl rfl jf_X12_342 (by decide +kernel) rfl rfl (Nat.le_of_ble_eq_true rfl) (fun _ => rfl) (fun _ => rfl) (fun _ _ => rfl) (fun _ hj => upN_ne _ _ _ hj) dX12_draw_13 ?_
  refine j_nameN (fun N1 hN1 => ?_)
  replace h := h N1 hN1
  refine j_aload_n o dX12_draw_16 rfl ?_
  refine j_getf o (g := 1) (slot := 37) (ci := 12) (v := .long (N1 1 37)) rfl jin_X12 (by decide) rfl jf_X12_342 (fun _ => rfl) rfl dX12_draw_17 ?_
  refine j_bipush o (v := 33) dX12_draw_20 rfl ?_
  refine j_lushr o dX12_draw_22 ?_
  refine j_iload_n o dX12_draw_23 rfl ?_
  refine j_i2l o dX12_draw_24 ?_
  obtain ⟨hz2, h⟩ := h
  refine j_lrem o dX12_draw_25 hz2 ?_
  refine j_l2i o dX12_draw_26 ?_
  rw [hE]
  exact j_iret o dX12_draw_27 ⟨_, rfl, rfl, rfl, h⟩

abbrev rm_X12_person : Room := { frames := 1, cells := 0, slots := 0, locals := 22 }
def w_X12_person (P : jP) (a1 : Int64) (a2 : Int32) (M : jM) (N : jN) (Q : Int32 → jM → jN → Prop) : Prop :=
  (((upM M 1 0 0) 1 31) = 0 → (
   Q (-1) (upM M 1 0 0) N
  )) ∧ (¬ ((upM M 1 0 0) 1 31) = 0 → (
   w_X12_isIn P a2 0 1 (fun r2 =>
   (¬ r2 = 0 → (
    ∀ R34 : Int32 → Int32 → Prop, (∀ (x6 : Int32) (x7 : Int32), (
     (((upM M 1 0 0) 1 31) ≤ x7 → (
      w_X12_draw P x6 (upN N 1 37 a1) (fun r9 N10 =>
      ∀ R72 : Int32 → Int32 → Prop, (∀ (x12 : Int32) (x13 : Int32), (
       vp_in x13 (4) ∧
       (x12 < ((upM M 1 0 0) 17 x13.toNatClampNeg) → (
        ∀ R108 : Int32 → Int32 → jN → Prop, (∀ (x16 : Int32) (x17 : Int32) (N18 : jN), (
         (((upM M 1 0 0) 1 1) ≤ x17 → (
          (¬ a2 = 0 → (
           Q x13 (upM M 1 0 0) N18
          )) ∧ (a2 = 0 → (
           Q x16 (upM M 1 0 0) N18
          ))
         )) ∧ (¬ ((upM M 1 0 0) 1 1) ≤ x17 → (
          w_X12_draw P 10 N18 (fun r21 N22 =>
          vp_in ((9 * x13) + x17) (36) ∧
          ∀ R149 : Int32 → Prop, (∀ (x25 : Int32), (
           R108 (x16 ||| x25) (x17 + 1) N22
          ) → R149 x25) →
          (((upM M 1 0 0) 18 ((9 * x13) + x17).toNatClampNeg) ≤ r21 → (
           R149 0
          )) ∧ (¬ ((upM M 1 0 0) 18 ((9 * x13) + x17).toNatClampNeg) ≤ r21 → (
           R149 ((1 : Int32) <<< (x17 &&& 31))
          )))
         ))
        ) → R108 x16 x17 N18) →
        R108 0 0 N10
       )) ∧ (¬ x12 < ((upM M 1 0 0) 17 x13.toNatClampNeg) → (
        vp_in x13 (4) ∧
        R72 (x12 - ((upM M 1 0 0) 17 x13.toNatClampNeg)) (x13 + 1)
       ))
      ) → R72 x12 x13) →
      R72 r9 0)
     )) ∧ (¬ ((upM M 1 0 0) 1 31) ≤ x7 → (
      vp_in x7 (4) ∧
      R34 (x6 + ((upM M 1 0 0) 17 x7.toNatClampNeg)) (x7 + 1)
     ))
    ) → R34 x6 x7) →
    R34 0 0
   )) ∧ (r2 = 0 → (
    Q (-1) (upM M 1 0 0) N
   )))
  ))
set_option maxRecDepth 20000 in
theorem c_X12_person (l : Launch) (P : jP) (a1 : Int64) (a2 : Int32) (M : jM) (N : jN) (Q : Int32 → jM → jN → Prop) (h : w_X12_person P a1 a2 M N Q) : jC l yX12_person cX12_person 9 (some .int) rm_X12_person LM [.ref (P.1 1), .long a1, .int a2] P M N (jqi P (fun r M' N' => Q r M' N')) := by
  refine jC_of (by decide +kernel) [(0, .ref (P.1 1)), (1, .long a1), (3, .int a2)] (Nat.le_of_ble_eq_true rfl) rfl (fun X o => ?_)
  obtain ⟨E, hE⟩ : ∃ E, E = jE X rm_X12_person (jqi P (fun r M' N' => Q r M' N')) := ⟨_, rfl⟩
  rw [← hE]
  unfold w_X12_person at h
  refine j_aload_n o dX12_person_0 rfl ?_
  refine j_iconst o (v := 0) dX12_person_1 rfl ?_
  refine j_putf o (M1 := upM M 1 0 0) (N1 := N) (g := 1) (slot := 0) (ci := 12) (ty := .int) rfl jin_X12 tyX12_ok nmX12 (by decide) rfl rfl jf_X12_114 (by decide +kernel) rfl rfl (Nat.le_of_ble_eq_true rfl) (fun _ => rfl) (fun _ => rfl) (fun _ hj => upM_ne _ _ _ hj) (fun _ _ => rfl) dX12_person_2 ?_
  refine j_aload_n o dX12_person_5 rfl ?_
  refine j_getf o (g := 1) (slot := 31) (ci := 12) (v := .int ((upM M 1 0 0) 1 31)) rfl jin_X12 (by decide) rfl jf_X12_280 (fun _ => rfl) rfl dX12_person_6 ?_
  refine j_if_eq o (tgt := 21) dX12_person_9 (by decide) (fun c1 => ?_) (fun c1 => ?_)
  · replace h := h.1 c1
    refine j_iconst o (v := (-1)) dX12_person_21 rfl ?_
    rw [hE]
    exact j_iret o dX12_person_22 ⟨_, rfl, rfl, h⟩
  · replace h := h.2 c1
    refine j_iload_n o dX12_person_12 rfl ?_
    refine j_iconst o (v := 0) dX12_person_13 rfl ?_
    refine j_iconst o (v := 1) dX12_person_14 rfl ?_
    refine j_callSi o (c_X12_isIn l P a2 0 1 (upM M 1 0 0) N _ h) dX12_person_15 jc_X12_209 jn_X12_isIn rfl rfl rfl rfl (fun r2 Mz3 Nz4 h => ?_)
    obtain ⟨rfl, rfl, h⟩ := h
    refine j_if_ne o (tgt := 23) dX12_person_18 (by decide) (fun c5 => ?_) (fun c5 => ?_)
    · replace h := h.1 c5
      refine j_aload_n o dX12_person_23 rfl ?_
      refine j_lload_n o dX12_person_24 rfl ?_
      refine j_putf o (N1 := upN N 1 37 a1) (M1 := upM M 1 0 0) (g := 1) (slot := 37) (ci := 12) (ty := .long) rfl jin_X12 tyX12_ok nmX12 (by decide) rfl rfl jf_X12_342 (by decide +kernel) rfl rfl (Nat.le_of_ble_eq_true rfl) (fun _ => rfl) (fun _ => rfl) (fun _ _ => rfl) (fun _ hj => upN_ne _ _ _ hj) dX12_person_25 ?_
      refine j_iconst o (v := 0) dX12_person_28 rfl ?_
      refine j_istore o [(4, .int 0), (0, .ref (P.1 1)), (1, .long a1), (3, .int a2)] dX12_person_29 (by decide) rfl ?_
      refine j_iconst o (v := 0) dX12_person_31 rfl ?_
      refine j_istore o [(5, .int 0), (4, .int 0), (0, .ref (P.1 1)), (1, .long a1), (3, .int a2)] dX12_person_32 (by decide) rfl ?_
      replace h := h (fun (x6 : Int32) (x7 : Int32) => J X P (upM M 1 0 0) (upN N 1 37 a1) 0 0 E 9 34 [(0, .ref (P.1 1)), (3, .int a2), (4, .int x6), (5, .int x7)] []) (by
        intro x6 x7 h
        refine j_iload o dX12_person_34 rfl ?_
        refine j_aload_n o dX12_person_36 rfl ?_
        refine j_getf o (g := 1) (slot := 31) (ci := 12) (v := .int ((upM M 1 0 0) 1 31)) rfl jin_X12 (by decide) rfl jf_X12_280 (fun _ => rfl) rfl dX12_person_37 ?_
        refine j_icmp_ge o (tgt := 61) dX12_person_40 (by decide) (fun c8 => ?_) (fun c8 => ?_)
        · replace h := h.1 c8
          refine j_aload_n o dX12_person_61 rfl ?_
          refine j_iload o dX12_person_62 rfl ?_
          refine j_callVi (g := 1) (ci := 12) o (c_X12_draw l P x6 (upM M 1 0 0) (upN N 1 37 a1) _ h) dX12_person_64 jc_X12_350 jn_X12_draw rfl rfl rfl (fun _ => rfl) rfl rfl (fun r9 Mz11 N10 h => ?_)
          obtain ⟨rfl, h⟩ := h
          refine j_istore o [(5, .int r9), (0, .ref (P.1 1)), (3, .int a2), (4, .int x6)] dX12_person_67 (by decide) rfl ?_
          refine j_iconst o (v := 0) dX12_person_69 rfl ?_
          refine j_istore o [(6, .int 0), (5, .int r9), (0, .ref (P.1 1)), (3, .int a2), (4, .int x6)] dX12_person_70 (by decide) rfl ?_
          replace h := h (fun (x12 : Int32) (x13 : Int32) => J X P (upM M 1 0 0) N10 0 0 E 9 72 [(0, .ref (P.1 1)), (3, .int a2), (5, .int x12), (6, .int x13)] []) (by
            intro x12 x13 h
            refine j_iload o dX12_person_72 rfl ?_
            refine j_aload_n o dX12_person_74 rfl ?_
            refine j_getf o (g := 1) (slot := 29) (ci := 12) (v := .ref (P.1 17)) rfl jin_X12 (by decide) rfl jf_X12_57 (fun _ => rfl) rfl dX12_person_75 ?_
            refine j_iload o dX12_person_78 rfl ?_
            obtain ⟨hb14, h⟩ := h
            refine j_iald o (g := 17) (fun _ => rfl) hb14 dX12_person_80 ?_
            refine j_icmp_lt o (tgt := 102) dX12_person_81 (by decide) (fun c15 => ?_) (fun c15 => ?_)
            · replace h := h.1 c15
              refine j_iconst o (v := 0) dX12_person_102 rfl ?_
              refine j_istore o [(7, .int 0), (0, .ref (P.1 1)), (3, .int a2), (5, .int x12), (6, .int x13)] dX12_person_103 (by decide) rfl ?_
              refine j_iconst o (v := 0) dX12_person_105 rfl ?_
              refine j_istore o [(8, .int 0), (7, .int 0), (0, .ref (P.1 1)), (3, .int a2), (5, .int x12), (6, .int x13)] dX12_person_106 (by decide) rfl ?_
              replace h := h (fun (x16 : Int32) (x17 : Int32) (N18 : jN) => J X P (upM M 1 0 0) N18 0 0 E 9 108 [(0, .ref (P.1 1)), (3, .int a2), (6, .int x13), (7, .int x16), (8, .int x17)] []) (by
                intro x16 x17 N18 h
                refine j_iload o dX12_person_108 rfl ?_
                refine j_aload_n o dX12_person_110 rfl ?_
                refine j_getf o (g := 1) (slot := 1) (ci := 12) (v := .int ((upM M 1 0 0) 1 1)) rfl jin_X12 (by decide) rfl jf_X12_107 (fun _ => rfl) rfl dX12_person_111 ?_
                refine j_icmp_ge o (tgt := 158) dX12_person_114 (by decide) (fun c19 => ?_) (fun c19 => ?_)
                · replace h := h.1 c19
                  refine j_iload_n o dX12_person_158 rfl ?_
                  refine j_if_ne o (tgt := 167) dX12_person_159 (by decide) (fun c20 => ?_) (fun c20 => ?_)
                  · replace h := h.1 c20
                    refine j_iload o dX12_person_167 rfl ?_
                    rw [hE]
                    exact j_iret o dX12_person_169 ⟨_, rfl, rfl, h⟩
                  · replace h := h.2 c20
                    refine j_iload o dX12_person_162 rfl ?_
                    refine j_goto o (tgt := 169) dX12_person_164 (by decide) ?_
                    rw [hE]
                    exact j_iret o dX12_person_169 ⟨_, rfl, rfl, h⟩
                · replace h := h.2 c19
                  refine j_iload o dX12_person_117 rfl ?_
                  refine j_aload_n o dX12_person_119 rfl ?_
                  refine j_bipush o (v := 10) dX12_person_120 rfl ?_
                  refine j_callVi (g := 1) (ci := 12) o (c_X12_draw l P 10 (upM M 1 0 0) N18 _ h) dX12_person_122 jc_X12_350 jn_X12_draw rfl rfl rfl (fun _ => rfl) rfl rfl (fun r21 Mz23 N22 h => ?_)
                  obtain ⟨rfl, h⟩ := h
                  refine j_aload_n o dX12_person_125 rfl ?_
                  refine j_getf o (g := 1) (slot := 30) (ci := 12) (v := .ref (P.1 18)) rfl jin_X12 (by decide) rfl jf_X12_60 (fun _ => rfl) rfl dX12_person_126 ?_
                  refine j_bipush o (v := 9) dX12_person_129 rfl ?_
                  refine j_iload o dX12_person_131 rfl ?_
                  refine j_imul o dX12_person_133 ?_
                  refine j_iload o dX12_person_134 rfl ?_
                  refine j_iadd o dX12_person_136 ?_
                  obtain ⟨hb24, h⟩ := h
                  refine j_iald o (g := 18) (fun _ => rfl) hb24 dX12_person_137 ?_
                  replace h := h (fun (x25 : Int32) => J X P (upM M 1 0 0) N22 0 0 E 9 149 [(0, .ref (P.1 1)), (3, .int a2), (6, .int x13), (8, .int x17)] [.int x25, .int x16]) (by
                    intro x25 h
                    refine j_ior o dX12_person_149 ?_
                    refine j_istore o [(7, .int (x16 ||| x25)), (0, .ref (P.1 1)), (3, .int a2), (6, .int x13), (8, .int x17)] dX12_person_150 (by decide) rfl ?_
                    refine j_iinc o (v := x17 + 1) [(8, .int (x17 + 1)), (7, .int (x16 ||| x25)), (0, .ref (P.1 1)), (3, .int a2), (6, .int x13)] dX12_person_152 rfl rfl (by decide) rfl ?_
                    refine j_goto o (tgt := 108) dX12_person_155 (by decide) ?_
                    exact j_pick [2, 3, 4, 1, 0] rfl h)
                  refine j_icmp_ge o (tgt := 148) dX12_person_138 (by decide) (fun c26 => ?_) (fun c26 => ?_)
                  · replace h := h.1 c26
                    refine j_iconst o (v := 0) dX12_person_148 rfl ?_
                    exact j_pick [0, 1, 2, 4] rfl h
                  · replace h := h.2 c26
                    refine j_iconst o (v := 1) dX12_person_141 rfl ?_
                    refine j_iload o dX12_person_142 rfl ?_
                    refine j_ishl o dX12_person_144 ?_
                    refine j_goto o (tgt := 149) dX12_person_145 (by decide) ?_
                    exact j_pick [0, 1, 2, 4] rfl h)
              exact j_pick [2, 3, 5, 1, 0] rfl h
            · replace h := h.2 c15
              refine j_iload o dX12_person_84 rfl ?_
              refine j_aload_n o dX12_person_86 rfl ?_
              refine j_getf o (g := 1) (slot := 29) (ci := 12) (v := .ref (P.1 17)) rfl jin_X12 (by decide) rfl jf_X12_57 (fun _ => rfl) rfl dX12_person_87 ?_
              refine j_iload o dX12_person_90 rfl ?_
              obtain ⟨hb27, h⟩ := h
              refine j_iald o (g := 17) (fun _ => rfl) hb27 dX12_person_92 ?_
              refine j_isub o dX12_person_93 ?_
              refine j_istore o [(5, .int (x12 - ((upM M 1 0 0) 17 x13.toNatClampNeg))), (0, .ref (P.1 1)), (3, .int a2), (6, .int x13)] dX12_person_94 (by decide) rfl ?_
              refine j_iinc o (v := x13 + 1) [(6, .int (x13 + 1)), (5, .int (x12 - ((upM M 1 0 0) 17 x13.toNatClampNeg))), (0, .ref (P.1 1)), (3, .int a2)] dX12_person_96 rfl rfl (by decide) rfl ?_
              refine j_goto o (tgt := 72) dX12_person_99 (by decide) ?_
              exact j_pick [2, 3, 1, 0] rfl h)
          exact j_pick [2, 3, 1, 0] rfl h
        · replace h := h.2 c8
          refine j_iload o dX12_person_43 rfl ?_
          refine j_aload_n o dX12_person_45 rfl ?_
          refine j_getf o (g := 1) (slot := 29) (ci := 12) (v := .ref (P.1 17)) rfl jin_X12 (by decide) rfl jf_X12_57 (fun _ => rfl) rfl dX12_person_46 ?_
          refine j_iload o dX12_person_49 rfl ?_
          obtain ⟨hb28, h⟩ := h
          refine j_iald o (g := 17) (fun _ => rfl) hb28 dX12_person_51 ?_
          refine j_iadd o dX12_person_52 ?_
          refine j_istore o [(4, .int (x6 + ((upM M 1 0 0) 17 x7.toNatClampNeg))), (0, .ref (P.1 1)), (3, .int a2), (5, .int x7)] dX12_person_53 (by decide) rfl ?_
          refine j_iinc o (v := x7 + 1) [(5, .int (x7 + 1)), (4, .int (x6 + ((upM M 1 0 0) 17 x7.toNatClampNeg))), (0, .ref (P.1 1)), (3, .int a2)] dX12_person_55 rfl rfl (by decide) rfl ?_
          refine j_goto o (tgt := 34) dX12_person_58 (by decide) ?_
          exact j_pick [2, 3, 1, 0] rfl h)
      exact j_pick [2, 4, 1, 0] rfl h
    · replace h := h.2 c5
      refine j_iconst o (v := (-1)) dX12_person_21 rfl ?_
      rw [hE]
      exact j_iret o dX12_person_22 ⟨_, rfl, rfl, h⟩

abbrev rm_X12_isClauseAlike : Room := { frames := 1, cells := 0, slots := 0, locals := 21 }
def w_X12_isClauseAlike (P : jP) (a1 : Int32) (a2 : Int32) (a3 : Int32) (M : jM) (Q : Int32 → Prop) : Prop :=
  vp_in a1 (6) ∧
  ((M 10 a1.toNatClampNeg) ≤ a3 → (
   Q 0
  )) ∧ (¬ (M 10 a1.toNatClampNeg) ≤ a3 → (
   vp_in ((12 * a1) + a3) (72) ∧
   vp_in ((12 * a2) + a3) (72) ∧
   ((M 11 ((12 * a1) + a3).toNatClampNeg) = (M 11 ((12 * a2) + a3).toNatClampNeg) → (
    ∀ R40 : Int32 → Prop, (∀ (x6 : Int32), (
     ((M 1 2) ≤ x6 → (
      Q 1
     )) ∧ (¬ (M 1 2) ≤ x6 → (
      vp_in ((512 * a1) + x6) (3072) ∧
      w_X12_has P (M 9 ((512 * a1) + x6).toNatClampNeg) a3 (fun r9 =>
      vp_in ((512 * a2) + x6) (3072) ∧
      w_X12_has P (M 9 ((512 * a2) + x6).toNatClampNeg) a3 (fun r13 =>
      (r9 = r13 → (
       R40 (x6 + 1)
      )) ∧ (¬ r9 = r13 → (
       Q 0
      ))))
     ))
    ) → R40 x6) →
    R40 0
   )) ∧ (¬ (M 11 ((12 * a1) + a3).toNatClampNeg) = (M 11 ((12 * a2) + a3).toNatClampNeg) → (
    Q 0
   ))
  ))
set_option maxRecDepth 20000 in
theorem c_X12_isClauseAlike (l : Launch) (P : jP) (a1 : Int32) (a2 : Int32) (a3 : Int32) (M : jM) (N : jN) (Q : Int32 → Prop) (h : w_X12_isClauseAlike P a1 a2 a3 M Q) : jC l yX12_isClauseAlike cX12_isClauseAlike 5 (some .boolean) rm_X12_isClauseAlike LM [.ref (P.1 1), .int a1, .int a2, .int a3] P M N (jqi P (fun r M' N' => M = M' ∧ N = N' ∧ Q r )) := by
  refine jC_of (by decide +kernel) [(0, .ref (P.1 1)), (1, .int a1), (2, .int a2), (3, .int a3)] (Nat.le_of_ble_eq_true rfl) rfl (fun X o => ?_)
  obtain ⟨E, hE⟩ : ∃ E, E = jE X rm_X12_isClauseAlike (jqi P (fun r M' N' => M = M' ∧ N = N' ∧ Q r )) := ⟨_, rfl⟩
  rw [← hE]
  unfold w_X12_isClauseAlike at h
  refine j_iload_n o dX12_isClauseAlike_0 rfl ?_
  refine j_aload_n o dX12_isClauseAlike_1 rfl ?_
  refine j_getf o (g := 1) (slot := 19) (ci := 12) (v := .ref (P.1 10)) rfl jin_X12 (by decide) rfl jf_X12_35 (fun _ => rfl) rfl dX12_isClauseAlike_2 ?_
  refine j_iload_n o dX12_isClauseAlike_5 rfl ?_
  obtain ⟨hb1, h⟩ := h
  refine j_iald o (g := 10) (fun _ => rfl) hb1 dX12_isClauseAlike_6 ?_
  refine j_icmp_ge o (tgt := 35) dX12_isClauseAlike_7 (by decide) (fun c2 => ?_) (fun c2 => ?_)
  · replace h := h.1 c2
    refine j_iconst o (v := 0) dX12_isClauseAlike_35 rfl ?_
    rw [hE]
    exact j_zret o rfl dX12_isClauseAlike_36 ⟨_, rfl, rfl, rfl, rfl, h⟩
  · replace h := h.2 c2
    refine j_aload_n o dX12_isClauseAlike_10 rfl ?_
    refine j_getf o (g := 1) (slot := 20) (ci := 12) (v := .ref (P.1 11)) rfl jin_X12 (by decide) rfl jf_X12_38 (fun _ => rfl) rfl dX12_isClauseAlike_11 ?_
    refine j_bipush o (v := 12) dX12_isClauseAlike_14 rfl ?_
    refine j_iload_n o dX12_isClauseAlike_16 rfl ?_
    refine j_imul o dX12_isClauseAlike_17 ?_
    refine j_iload_n o dX12_isClauseAlike_18 rfl ?_
    refine j_iadd o dX12_isClauseAlike_19 ?_
    obtain ⟨hb3, h⟩ := h
    refine j_iald o (g := 11) (fun _ => rfl) hb3 dX12_isClauseAlike_20 ?_
    refine j_aload_n o dX12_isClauseAlike_21 rfl ?_
    refine j_getf o (g := 1) (slot := 20) (ci := 12) (v := .ref (P.1 11)) rfl jin_X12 (by decide) rfl jf_X12_38 (fun _ => rfl) rfl dX12_isClauseAlike_22 ?_
    refine j_bipush o (v := 12) dX12_isClauseAlike_25 rfl ?_
    refine j_iload_n o dX12_isClauseAlike_27 rfl ?_
    refine j_imul o dX12_isClauseAlike_28 ?_
    refine j_iload_n o dX12_isClauseAlike_29 rfl ?_
    refine j_iadd o dX12_isClauseAlike_30 ?_
    obtain ⟨hb4, h⟩ := h
    refine j_iald o (g := 11) (fun _ => rfl) hb4 dX12_isClauseAlike_31 ?_
    refine j_icmp_eq o (tgt := 37) dX12_isClauseAlike_32 (by decide) (fun c5 => ?_) (fun c5 => ?_)
    · replace h := h.1 c5
      refine j_iconst o (v := 0) dX12_isClauseAlike_37 rfl ?_
      refine j_istore o [(4, .int 0), (0, .ref (P.1 1)), (1, .int a1), (2, .int a2), (3, .int a3)] dX12_isClauseAlike_38 (by decide) rfl ?_
      replace h := h (fun (x6 : Int32) => J X P M N 0 0 E 5 40 [(0, .ref (P.1 1)), (1, .int a1), (2, .int a2), (3, .int a3), (4, .int x6)] []) (by
        intro x6 h
        refine j_iload o dX12_isClauseAlike_40 rfl ?_
        refine j_aload_n o dX12_isClauseAlike_42 rfl ?_
        refine j_getf o (g := 1) (slot := 2) (ci := 12) (v := .int (M 1 2)) rfl jin_X12 (by decide) rfl jf_X12_111 (fun _ => rfl) rfl dX12_isClauseAlike_43 ?_
        refine j_icmp_ge o (tgt := 94) dX12_isClauseAlike_46 (by decide) (fun c7 => ?_) (fun c7 => ?_)
        · replace h := h.1 c7
          refine j_iconst o (v := 1) dX12_isClauseAlike_94 rfl ?_
          rw [hE]
          exact j_zret o rfl dX12_isClauseAlike_95 ⟨_, rfl, rfl, rfl, rfl, h⟩
        · replace h := h.2 c7
          refine j_aload_n o dX12_isClauseAlike_49 rfl ?_
          refine j_getf o (g := 1) (slot := 18) (ci := 12) (v := .ref (P.1 9)) rfl jin_X12 (by decide) rfl jf_X12_32 (fun _ => rfl) rfl dX12_isClauseAlike_50 ?_
          refine j_sipush o (v := 512) dX12_isClauseAlike_53 rfl ?_
          refine j_iload_n o dX12_isClauseAlike_56 rfl ?_
          refine j_imul o dX12_isClauseAlike_57 ?_
          refine j_iload o dX12_isClauseAlike_58 rfl ?_
          refine j_iadd o dX12_isClauseAlike_60 ?_
          obtain ⟨hb8, h⟩ := h
          refine j_iald o (g := 9) (fun _ => rfl) hb8 dX12_isClauseAlike_61 ?_
          refine j_iload_n o dX12_isClauseAlike_62 rfl ?_
          refine j_callSi o (c_X12_has l P (M 9 ((512 * a1) + x6).toNatClampNeg) a3 M N _ h) dX12_isClauseAlike_63 jc_X12_157 jn_X12_has rfl rfl rfl rfl (fun r9 Mz10 Nz11 h => ?_)
          obtain ⟨rfl, rfl, h⟩ := h
          refine j_aload_n o dX12_isClauseAlike_66 rfl ?_
          refine j_getf o (g := 1) (slot := 18) (ci := 12) (v := .ref (P.1 9)) rfl jin_X12 (by decide) rfl jf_X12_32 (fun _ => rfl) rfl dX12_isClauseAlike_67 ?_
          refine j_sipush o (v := 512) dX12_isClauseAlike_70 rfl ?_
          refine j_iload_n o dX12_isClauseAlike_73 rfl ?_
          refine j_imul o dX12_isClauseAlike_74 ?_
          refine j_iload o dX12_isClauseAlike_75 rfl ?_
          refine j_iadd o dX12_isClauseAlike_77 ?_
          obtain ⟨hb12, h⟩ := h
          refine j_iald o (g := 9) (fun _ => rfl) hb12 dX12_isClauseAlike_78 ?_
          refine j_iload_n o dX12_isClauseAlike_79 rfl ?_
          refine j_callSi o (c_X12_has l P (M 9 ((512 * a2) + x6).toNatClampNeg) a3 M N _ h) dX12_isClauseAlike_80 jc_X12_157 jn_X12_has rfl rfl rfl rfl (fun r13 Mz14 Nz15 h => ?_)
          obtain ⟨rfl, rfl, h⟩ := h
          refine j_icmp_eq o (tgt := 88) dX12_isClauseAlike_83 (by decide) (fun c16 => ?_) (fun c16 => ?_)
          · replace h := h.1 c16
            refine j_iinc o (v := x6 + 1) [(4, .int (x6 + 1)), (0, .ref (P.1 1)), (1, .int a1), (2, .int a2), (3, .int a3)] dX12_isClauseAlike_88 rfl rfl (by decide) rfl ?_
            refine j_goto o (tgt := 40) dX12_isClauseAlike_91 (by decide) ?_
            exact j_pick [1, 2, 3, 4, 0] rfl h
          · replace h := h.2 c16
            refine j_iconst o (v := 0) dX12_isClauseAlike_86 rfl ?_
            rw [hE]
            exact j_zret o rfl dX12_isClauseAlike_87 ⟨_, rfl, rfl, rfl, rfl, h⟩)
      exact j_pick [1, 2, 3, 4, 0] rfl h
    · replace h := h.2 c5
      refine j_iconst o (v := 0) dX12_isClauseAlike_35 rfl ?_
      rw [hE]
      exact j_zret o rfl dX12_isClauseAlike_36 ⟨_, rfl, rfl, rfl, rfl, h⟩

abbrev rm_X12_mend : Room := { frames := 2, cells := 0, slots := 0, locals := 45 }
def w_X12_mend (P : jP) (a1 : Int32) (a2 : Int32) (M : jM) (Q : Int32 → jM → Prop) : Prop :=
  w_X12_isLaw P a1 (upM M 1 0 0) (fun r1 =>
  (r1 = 0 → (
   Q (-1) (upM M 1 0 0)
  )) ∧ (¬ r1 = 0 → (
   w_X12_isLaw P a2 (upM M 1 0 0) (fun r5 =>
   (¬ r5 = 0 → (
    ∀ R28 : Int32 → Int32 → Prop, (∀ (x9 : Int32) (x10 : Int32), (
     vp_in a2 (6) ∧
     (((upM M 1 0 0) 10 a2.toNatClampNeg) ≤ x10 → (
      Q x9 (upM M 1 0 0)
     )) ∧ (¬ ((upM M 1 0 0) 10 a2.toNatClampNeg) ≤ x10 → (
      w_X12_isClauseAlike P a1 a2 x10 (upM M 1 0 0) (fun r13 =>
      ∀ R59 : Int32 → Prop, (∀ (x16 : Int32), (
       R28 (x9 ||| x16) (x10 + 1)
      ) → R59 x16) →
      (r13 = 0 → (
       R59 ((1 : Int32) <<< (x10 &&& 31))
      )) ∧ (¬ r13 = 0 → (
       R59 0
      )))
     ))
    ) → R28 x9 x10) →
    R28 0 0
   )) ∧ (r5 = 0 → (
    Q (-1) (upM M 1 0 0)
   )))
  )))
set_option maxRecDepth 20000 in
theorem c_X12_mend (l : Launch) (P : jP) (a1 : Int32) (a2 : Int32) (M : jM) (N : jN) (Q : Int32 → jM → Prop) (h : w_X12_mend P a1 a2 M Q) : jC l yX12_mend cX12_mend 5 (some .int) rm_X12_mend LM [.ref (P.1 1), .int a1, .int a2] P M N (jqi P (fun r M' N' => N = N' ∧ Q r M' )) := by
  refine jC_of (by decide +kernel) [(0, .ref (P.1 1)), (1, .int a1), (2, .int a2)] (Nat.le_of_ble_eq_true rfl) rfl (fun X o => ?_)
  obtain ⟨E, hE⟩ : ∃ E, E = jE X rm_X12_mend (jqi P (fun r M' N' => N = N' ∧ Q r M' )) := ⟨_, rfl⟩
  rw [← hE]
  unfold w_X12_mend at h
  refine j_aload_n o dX12_mend_0 rfl ?_
  refine j_iconst o (v := 0) dX12_mend_1 rfl ?_
  refine j_putf o (M1 := upM M 1 0 0) (N1 := N) (g := 1) (slot := 0) (ci := 12) (ty := .int) rfl jin_X12 tyX12_ok nmX12 (by decide) rfl rfl jf_X12_114 (by decide +kernel) rfl rfl (Nat.le_of_ble_eq_true rfl) (fun _ => rfl) (fun _ => rfl) (fun _ hj => upM_ne _ _ _ hj) (fun _ _ => rfl) dX12_mend_2 ?_
  refine j_aload_n o dX12_mend_5 rfl ?_
  refine j_iload_n o dX12_mend_6 rfl ?_
  refine j_callVi (g := 1) (ci := 12) o (c_X12_isLaw l P a1 (upM M 1 0 0) N _ h) dX12_mend_7 jc_X12_233 jn_X12_isLaw rfl rfl rfl (fun _ => rfl) rfl rfl (fun r1 Mz2 Nz3 h => ?_)
  obtain ⟨rfl, rfl, h⟩ := h
  refine j_if_eq o (tgt := 21) dX12_mend_10 (by decide) (fun c4 => ?_) (fun c4 => ?_)
  · replace h := h.1 c4
    refine j_iconst o (v := (-1)) dX12_mend_21 rfl ?_
    rw [hE]
    exact j_iret o dX12_mend_22 ⟨_, rfl, rfl, rfl, h⟩
  · replace h := h.2 c4
    refine j_aload_n o dX12_mend_13 rfl ?_
    refine j_iload_n o dX12_mend_14 rfl ?_
    refine j_callVi (g := 1) (ci := 12) o (c_X12_isLaw l P a2 (upM M 1 0 0) N _ h) dX12_mend_15 jc_X12_233 jn_X12_isLaw rfl rfl rfl (fun _ => rfl) rfl rfl (fun r5 Mz6 Nz7 h => ?_)
    obtain ⟨rfl, rfl, h⟩ := h
    refine j_if_ne o (tgt := 23) dX12_mend_18 (by decide) (fun c8 => ?_) (fun c8 => ?_)
    · replace h := h.1 c8
      refine j_iconst o (v := 0) dX12_mend_23 rfl ?_
      refine j_istore_n o [(3, .int 0), (0, .ref (P.1 1)), (1, .int a1), (2, .int a2)] dX12_mend_24 (by decide) rfl ?_
      refine j_iconst o (v := 0) dX12_mend_25 rfl ?_
      refine j_istore o [(4, .int 0), (3, .int 0), (0, .ref (P.1 1)), (1, .int a1), (2, .int a2)] dX12_mend_26 (by decide) rfl ?_
      replace h := h (fun (x9 : Int32) (x10 : Int32) => J X P (upM M 1 0 0) N 0 0 E 5 28 [(0, .ref (P.1 1)), (1, .int a1), (2, .int a2), (3, .int x9), (4, .int x10)] []) (by
        intro x9 x10 h
        refine j_iload o dX12_mend_28 rfl ?_
        refine j_aload_n o dX12_mend_30 rfl ?_
        refine j_getf o (g := 1) (slot := 19) (ci := 12) (v := .ref (P.1 10)) rfl jin_X12 (by decide) rfl jf_X12_35 (fun _ => rfl) rfl dX12_mend_31 ?_
        refine j_iload_n o dX12_mend_34 rfl ?_
        obtain ⟨hb11, h⟩ := h
        refine j_iald o (g := 10) (fun _ => rfl) hb11 dX12_mend_35 ?_
        refine j_icmp_ge o (tgt := 67) dX12_mend_36 (by decide) (fun c12 => ?_) (fun c12 => ?_)
        · replace h := h.1 c12
          refine j_iload_n o dX12_mend_67 rfl ?_
          rw [hE]
          exact j_iret o dX12_mend_68 ⟨_, rfl, rfl, rfl, h⟩
        · replace h := h.2 c12
          refine j_iload_n o dX12_mend_39 rfl ?_
          refine j_aload_n o dX12_mend_40 rfl ?_
          refine j_iload_n o dX12_mend_41 rfl ?_
          refine j_iload_n o dX12_mend_42 rfl ?_
          refine j_iload o dX12_mend_43 rfl ?_
          refine j_callVi (g := 1) (ci := 12) o (c_X12_isClauseAlike l P a1 a2 x10 (upM M 1 0 0) N _ h) dX12_mend_45 jc_X12_353 jn_X12_isClauseAlike rfl rfl rfl (fun _ => rfl) rfl rfl (fun r13 Mz14 Nz15 h => ?_)
          obtain ⟨rfl, rfl, h⟩ := h
          replace h := h (fun (x16 : Int32) => J X P (upM M 1 0 0) N 0 0 E 5 59 [(0, .ref (P.1 1)), (1, .int a1), (2, .int a2), (4, .int x10)] [.int x16, .int x9]) (by
            intro x16 h
            refine j_ior o dX12_mend_59 ?_
            refine j_istore_n o [(3, .int (x9 ||| x16)), (0, .ref (P.1 1)), (1, .int a1), (2, .int a2), (4, .int x10)] dX12_mend_60 (by decide) rfl ?_
            refine j_iinc o (v := x10 + 1) [(4, .int (x10 + 1)), (3, .int (x9 ||| x16)), (0, .ref (P.1 1)), (1, .int a1), (2, .int a2)] dX12_mend_61 rfl rfl (by decide) rfl ?_
            refine j_goto o (tgt := 28) dX12_mend_64 (by decide) ?_
            exact j_pick [2, 3, 4, 1, 0] rfl h)
          refine j_if_eq o (tgt := 55) dX12_mend_48 (by decide) (fun c17 => ?_) (fun c17 => ?_)
          · replace h := h.1 c17
            refine j_iconst o (v := 1) dX12_mend_55 rfl ?_
            refine j_iload o dX12_mend_56 rfl ?_
            refine j_ishl o dX12_mend_58 ?_
            exact j_pick [0, 1, 2, 4] rfl h
          · replace h := h.2 c17
            refine j_iconst o (v := 0) dX12_mend_51 rfl ?_
            refine j_goto o (tgt := 59) dX12_mend_52 (by decide) ?_
            exact j_pick [0, 1, 2, 4] rfl h)
      exact j_pick [2, 3, 4, 1, 0] rfl h
    · replace h := h.2 c8
      refine j_iconst o (v := (-1)) dX12_mend_21 rfl ?_
      rw [hE]
      exact j_iret o dX12_mend_22 ⟨_, rfl, rfl, rfl, h⟩

abbrev rm_X12_swap : Room := { frames := 1, cells := 0, slots := 0, locals := 22 }
def w_X12_swap (P : jP) (a1 : Int32) (a2 : Int32) (M : jM) (Q : Int32 → jM → Prop) : Prop :=
  w_X12_isLaw P a1 (upM M 1 0 0) (fun r1 =>
  (r1 = 0 → (
   Q (-1) (upM M 1 0 0)
  )) ∧ (¬ r1 = 0 → (
   vp_in a1 (6) ∧
   w_X12_isIn P a2 0 (((upM M 1 0 0) 10 a1.toNatClampNeg) - 2) (fun r6 =>
   (¬ r6 = 0 → (
    vp_in ((12 * a1) + a2) (72) ∧
    vp_in (((12 * a1) + a2) + 1) (72) ∧
    (¬ ((upM M 1 0 0) 11 ((12 * a1) + a2).toNatClampNeg) = ((upM M 1 0 0) 11 (((12 * a1) + a2) + 1).toNatClampNeg) → (
     ∀ R62 : Int32 → Prop, (∀ (x13 : Int32), (
      (((upM M 1 0 0) 1 2) ≤ x13 → (
       Q 1 (upM M 1 0 0)
      )) ∧ (¬ ((upM M 1 0 0) 1 2) ≤ x13 → (
       vp_in ((512 * a1) + x13) (3072) ∧
       (¬ (((upM M 1 0 0) 9 ((512 * a1) + x13).toNatClampNeg) &&& (((4 : Int32) <<< (a2 &&& 31)) - 1)) = ((3 : Int32) <<< (a2 &&& 31)) → (
        R62 (x13 + 1)
       )) ∧ ((((upM M 1 0 0) 9 ((512 * a1) + x13).toNatClampNeg) &&& (((4 : Int32) <<< (a2 &&& 31)) - 1)) = ((3 : Int32) <<< (a2 &&& 31)) → (
        Q 0 (upM M 1 0 0)
       ))
      ))
     ) → R62 x13) →
     R62 0
    )) ∧ (((upM M 1 0 0) 11 ((12 * a1) + a2).toNatClampNeg) = ((upM M 1 0 0) 11 (((12 * a1) + a2) + 1).toNatClampNeg) → (
     Q 1 (upM M 1 0 0)
    ))
   )) ∧ (r6 = 0 → (
    Q (-1) (upM M 1 0 0)
   )))
  )))
set_option maxRecDepth 20000 in
theorem c_X12_swap (l : Launch) (P : jP) (a1 : Int32) (a2 : Int32) (M : jM) (N : jN) (Q : Int32 → jM → Prop) (h : w_X12_swap P a1 a2 M Q) : jC l yX12_swap cX12_swap 4 (some .int) rm_X12_swap LM [.ref (P.1 1), .int a1, .int a2] P M N (jqi P (fun r M' N' => N = N' ∧ Q r M' )) := by
  refine jC_of (by decide +kernel) [(0, .ref (P.1 1)), (1, .int a1), (2, .int a2)] (Nat.le_of_ble_eq_true rfl) rfl (fun X o => ?_)
  obtain ⟨E, hE⟩ : ∃ E, E = jE X rm_X12_swap (jqi P (fun r M' N' => N = N' ∧ Q r M' )) := ⟨_, rfl⟩
  rw [← hE]
  unfold w_X12_swap at h
  refine j_aload_n o dX12_swap_0 rfl ?_
  refine j_iconst o (v := 0) dX12_swap_1 rfl ?_
  refine j_putf o (M1 := upM M 1 0 0) (N1 := N) (g := 1) (slot := 0) (ci := 12) (ty := .int) rfl jin_X12 tyX12_ok nmX12 (by decide) rfl rfl jf_X12_114 (by decide +kernel) rfl rfl (Nat.le_of_ble_eq_true rfl) (fun _ => rfl) (fun _ => rfl) (fun _ hj => upM_ne _ _ _ hj) (fun _ _ => rfl) dX12_swap_2 ?_
  refine j_aload_n o dX12_swap_5 rfl ?_
  refine j_iload_n o dX12_swap_6 rfl ?_
  refine j_callVi (g := 1) (ci := 12) o (c_X12_isLaw l P a1 (upM M 1 0 0) N _ h) dX12_swap_7 jc_X12_233 jn_X12_isLaw rfl rfl rfl (fun _ => rfl) rfl rfl (fun r1 Mz2 Nz3 h => ?_)
  obtain ⟨rfl, rfl, h⟩ := h
  refine j_if_eq o (tgt := 29) dX12_swap_10 (by decide) (fun c4 => ?_) (fun c4 => ?_)
  · replace h := h.1 c4
    refine j_iconst o (v := (-1)) dX12_swap_29 rfl ?_
    rw [hE]
    exact j_iret o dX12_swap_30 ⟨_, rfl, rfl, rfl, h⟩
  · replace h := h.2 c4
    refine j_iload_n o dX12_swap_13 rfl ?_
    refine j_iconst o (v := 0) dX12_swap_14 rfl ?_
    refine j_aload_n o dX12_swap_15 rfl ?_
    refine j_getf o (g := 1) (slot := 19) (ci := 12) (v := .ref (P.1 10)) rfl jin_X12 (by decide) rfl jf_X12_35 (fun _ => rfl) rfl dX12_swap_16 ?_
    refine j_iload_n o dX12_swap_19 rfl ?_
    obtain ⟨hb5, h⟩ := h
    refine j_iald o (g := 10) (fun _ => rfl) hb5 dX12_swap_20 ?_
    refine j_iconst o (v := 2) dX12_swap_21 rfl ?_
    refine j_isub o dX12_swap_22 ?_
    refine j_callSi o (c_X12_isIn l P a2 0 (((upM M 1 0 0) 10 a1.toNatClampNeg) - 2) (upM M 1 0 0) N _ h) dX12_swap_23 jc_X12_209 jn_X12_isIn rfl rfl rfl rfl (fun r6 Mz7 Nz8 h => ?_)
    obtain ⟨rfl, rfl, h⟩ := h
    refine j_if_ne o (tgt := 31) dX12_swap_26 (by decide) (fun c9 => ?_) (fun c9 => ?_)
    · replace h := h.1 c9
      refine j_aload_n o dX12_swap_31 rfl ?_
      refine j_getf o (g := 1) (slot := 20) (ci := 12) (v := .ref (P.1 11)) rfl jin_X12 (by decide) rfl jf_X12_38 (fun _ => rfl) rfl dX12_swap_32 ?_
      refine j_bipush o (v := 12) dX12_swap_35 rfl ?_
      refine j_iload_n o dX12_swap_37 rfl ?_
      refine j_imul o dX12_swap_38 ?_
      refine j_iload_n o dX12_swap_39 rfl ?_
      refine j_iadd o dX12_swap_40 ?_
      obtain ⟨hb10, h⟩ := h
      refine j_iald o (g := 11) (fun _ => rfl) hb10 dX12_swap_41 ?_
      refine j_aload_n o dX12_swap_42 rfl ?_
      refine j_getf o (g := 1) (slot := 20) (ci := 12) (v := .ref (P.1 11)) rfl jin_X12 (by decide) rfl jf_X12_38 (fun _ => rfl) rfl dX12_swap_43 ?_
      refine j_bipush o (v := 12) dX12_swap_46 rfl ?_
      refine j_iload_n o dX12_swap_48 rfl ?_
      refine j_imul o dX12_swap_49 ?_
      refine j_iload_n o dX12_swap_50 rfl ?_
      refine j_iadd o dX12_swap_51 ?_
      refine j_iconst o (v := 1) dX12_swap_52 rfl ?_
      refine j_iadd o dX12_swap_53 ?_
      obtain ⟨hb11, h⟩ := h
      refine j_iald o (g := 11) (fun _ => rfl) hb11 dX12_swap_54 ?_
      refine j_icmp_ne o (tgt := 60) dX12_swap_55 (by decide) (fun c12 => ?_) (fun c12 => ?_)
      · replace h := h.1 c12
        refine j_iconst o (v := 0) dX12_swap_60 rfl ?_
        refine j_istore_n o [(3, .int 0), (0, .ref (P.1 1)), (1, .int a1), (2, .int a2)] dX12_swap_61 (by decide) rfl ?_
        replace h := h (fun (x13 : Int32) => J X P (upM M 1 0 0) N 0 0 E 4 62 [(0, .ref (P.1 1)), (1, .int a1), (2, .int a2), (3, .int x13)] []) (by
          intro x13 h
          refine j_iload_n o dX12_swap_62 rfl ?_
          refine j_aload_n o dX12_swap_63 rfl ?_
          refine j_getf o (g := 1) (slot := 2) (ci := 12) (v := .int ((upM M 1 0 0) 1 2)) rfl jin_X12 (by decide) rfl jf_X12_111 (fun _ => rfl) rfl dX12_swap_64 ?_
          refine j_icmp_ge o (tgt := 102) dX12_swap_67 (by decide) (fun c14 => ?_) (fun c14 => ?_)
          · replace h := h.1 c14
            refine j_iconst o (v := 1) dX12_swap_102 rfl ?_
            rw [hE]
            exact j_iret o dX12_swap_103 ⟨_, rfl, rfl, rfl, h⟩
          · replace h := h.2 c14
            refine j_aload_n o dX12_swap_70 rfl ?_
            refine j_getf o (g := 1) (slot := 18) (ci := 12) (v := .ref (P.1 9)) rfl jin_X12 (by decide) rfl jf_X12_32 (fun _ => rfl) rfl dX12_swap_71 ?_
            refine j_sipush o (v := 512) dX12_swap_74 rfl ?_
            refine j_iload_n o dX12_swap_77 rfl ?_
            refine j_imul o dX12_swap_78 ?_
            refine j_iload_n o dX12_swap_79 rfl ?_
            refine j_iadd o dX12_swap_80 ?_
            obtain ⟨hb15, h⟩ := h
            refine j_iald o (g := 9) (fun _ => rfl) hb15 dX12_swap_81 ?_
            refine j_iconst o (v := 4) dX12_swap_82 rfl ?_
            refine j_iload_n o dX12_swap_83 rfl ?_
            refine j_ishl o dX12_swap_84 ?_
            refine j_iconst o (v := 1) dX12_swap_85 rfl ?_
            refine j_isub o dX12_swap_86 ?_
            refine j_iand o dX12_swap_87 ?_
            refine j_iconst o (v := 3) dX12_swap_88 rfl ?_
            refine j_iload_n o dX12_swap_89 rfl ?_
            refine j_ishl o dX12_swap_90 ?_
            refine j_icmp_ne o (tgt := 96) dX12_swap_91 (by decide) (fun c16 => ?_) (fun c16 => ?_)
            · replace h := h.1 c16
              refine j_iinc o (v := x13 + 1) [(3, .int (x13 + 1)), (0, .ref (P.1 1)), (1, .int a1), (2, .int a2)] dX12_swap_96 rfl rfl (by decide) rfl ?_
              refine j_goto o (tgt := 62) dX12_swap_99 (by decide) ?_
              exact j_pick [1, 2, 3, 0] rfl h
            · replace h := h.2 c16
              refine j_iconst o (v := 0) dX12_swap_94 rfl ?_
              rw [hE]
              exact j_iret o dX12_swap_95 ⟨_, rfl, rfl, rfl, h⟩)
        exact j_pick [1, 2, 3, 0] rfl h
      · replace h := h.2 c12
        refine j_iconst o (v := 1) dX12_swap_58 rfl ?_
        rw [hE]
        exact j_iret o dX12_swap_59 ⟨_, rfl, rfl, rfl, h⟩
    · replace h := h.2 c9
      refine j_iconst o (v := (-1)) dX12_swap_29 rfl ?_
      rw [hE]
      exact j_iret o dX12_swap_30 ⟨_, rfl, rfl, rfl, h⟩

abbrev rm_X12_isOrder : Room := { frames := 0, cells := 0, slots := 0, locals := 0 }
def w_X12_isOrder (P : jP) (a1 : Int32) (M : jM) (Q : Int32 → jM → Prop) : Prop :=
  (0 ≤ a1 → (
   ∀ R18 : Int32 → Int32 → Int32 → jM → Prop, (∀ (x2 : Int32) (x3 : Int32) (x4 : Int32) (M5 : jM), (
    (x4 < 0 → (
     (¬ x2 = 0 → (
      Q 0 M5
     )) ∧ (x2 = 0 → (
      (¬ x3 = ((M5 1 2) - 1) → (
       Q 0 M5
      )) ∧ (x3 = ((M5 1 2) - 1) → (
       Q 1 M5
      ))
     ))
    )) ∧ (¬ x4 < 0 → (
     ¬ (M5 1 1) = 0 ∧
     vp_in x4 (9) ∧
     ∀ M11 : jM, M11 = upM M5 24 x4.toNatClampNeg (x2 - x2 / (M5 1 1) * (M5 1 1)) →
     ¬ (M11 1 1) = 0 ∧
     vp_in x4 (9) ∧
     ∀ y14 : Int32, y14 = x3 ||| ((1 : Int32) <<< ((M11 24 x4.toNatClampNeg) &&& 31)) →
     R18 (x2 / (M11 1 1)) y14 (x4 + (-1)) M11
    ))
   ) → R18 x2 x3 x4 M5) →
   R18 a1 0 ((M 1 1) - 1) M
  )) ∧ (¬ 0 ≤ a1 → (
   Q 0 M
  ))
set_option maxRecDepth 20000 in
theorem c_X12_isOrder (l : Launch) (P : jP) (a1 : Int32) (M : jM) (N : jN) (Q : Int32 → jM → Prop) (h : w_X12_isOrder P a1 M Q) : jC l yX12_isOrder cX12_isOrder 5 (some .boolean) rm_X12_isOrder LM [.ref (P.1 1), .int a1] P M N (jqi P (fun r M' N' => N = N' ∧ Q r M' )) := by
  refine jC_of (by decide +kernel) [(0, .ref (P.1 1)), (1, .int a1)] (Nat.le_of_ble_eq_true rfl) rfl (fun X o => ?_)
  obtain ⟨E, hE⟩ : ∃ E, E = jE X rm_X12_isOrder (jqi P (fun r M' N' => N = N' ∧ Q r M' )) := ⟨_, rfl⟩
  rw [← hE]
  unfold w_X12_isOrder at h
  refine j_iload_n o dX12_isOrder_0 rfl ?_
  refine j_if_ge o (tgt := 6) dX12_isOrder_1 (by decide) (fun c1 => ?_) (fun c1 => ?_)
  · replace h := h.1 c1
    refine j_iload_n o dX12_isOrder_6 rfl ?_
    refine j_istore_n o [(2, .int a1), (0, .ref (P.1 1)), (1, .int a1)] dX12_isOrder_7 (by decide) rfl ?_
    refine j_iconst o (v := 0) dX12_isOrder_8 rfl ?_
    refine j_istore_n o [(3, .int 0), (2, .int a1), (0, .ref (P.1 1)), (1, .int a1)] dX12_isOrder_9 (by decide) rfl ?_
    refine j_aload_n o dX12_isOrder_10 rfl ?_
    refine j_getf o (g := 1) (slot := 1) (ci := 12) (v := .int (M 1 1)) rfl jin_X12 (by decide) rfl jf_X12_107 (fun _ => rfl) rfl dX12_isOrder_11 ?_
    refine j_iconst o (v := 1) dX12_isOrder_14 rfl ?_
    refine j_isub o dX12_isOrder_15 ?_
    refine j_istore o [(4, .int ((M 1 1) - 1)), (3, .int 0), (2, .int a1), (0, .ref (P.1 1)), (1, .int a1)] dX12_isOrder_16 (by decide) rfl ?_
    replace h := h (fun (x2 : Int32) (x3 : Int32) (x4 : Int32) (M5 : jM) => J X P M5 N 0 0 E 5 18 [(0, .ref (P.1 1)), (2, .int x2), (3, .int x3), (4, .int x4)] []) (by
      intro x2 x3 x4 M5 h
      refine j_iload o dX12_isOrder_18 rfl ?_
      refine j_if_lt o (tgt := 61) dX12_isOrder_20 (by decide) (fun c6 => ?_) (fun c6 => ?_)
      · replace h := h.1 c6
        refine j_iload_n o dX12_isOrder_61 rfl ?_
        refine j_if_ne o (tgt := 79) dX12_isOrder_62 (by decide) (fun c7 => ?_) (fun c7 => ?_)
        · replace h := h.1 c7
          refine j_iconst o (v := 0) dX12_isOrder_79 rfl ?_
          rw [hE]
          exact j_zret o rfl dX12_isOrder_80 ⟨_, rfl, rfl, rfl, h⟩
        · replace h := h.2 c7
          refine j_iload_n o dX12_isOrder_65 rfl ?_
          refine j_aload_n o dX12_isOrder_66 rfl ?_
          refine j_getf o (g := 1) (slot := 2) (ci := 12) (v := .int (M5 1 2)) rfl jin_X12 (by decide) rfl jf_X12_111 (fun _ => rfl) rfl dX12_isOrder_67 ?_
          refine j_iconst o (v := 1) dX12_isOrder_70 rfl ?_
          refine j_isub o dX12_isOrder_71 ?_
          refine j_icmp_ne o (tgt := 79) dX12_isOrder_72 (by decide) (fun c8 => ?_) (fun c8 => ?_)
          · replace h := h.1 c8
            refine j_iconst o (v := 0) dX12_isOrder_79 rfl ?_
            rw [hE]
            exact j_zret o rfl dX12_isOrder_80 ⟨_, rfl, rfl, rfl, h⟩
          · replace h := h.2 c8
            refine j_iconst o (v := 1) dX12_isOrder_75 rfl ?_
            refine j_goto o (tgt := 80) dX12_isOrder_76 (by decide) ?_
            rw [hE]
            exact j_zret o rfl dX12_isOrder_80 ⟨_, rfl, rfl, rfl, h⟩
      · replace h := h.2 c6
        refine j_aload_n o dX12_isOrder_23 rfl ?_
        refine j_getf o (g := 1) (slot := 38) (ci := 12) (v := .ref (P.1 24)) rfl jin_X12 (by decide) rfl jf_X12_80 (fun _ => rfl) rfl dX12_isOrder_24 ?_
        refine j_iload o dX12_isOrder_27 rfl ?_
        refine j_iload_n o dX12_isOrder_29 rfl ?_
        refine j_aload_n o dX12_isOrder_30 rfl ?_
        refine j_getf o (g := 1) (slot := 1) (ci := 12) (v := .int (M5 1 1)) rfl jin_X12 (by decide) rfl jf_X12_107 (fun _ => rfl) rfl dX12_isOrder_31 ?_
        obtain ⟨hz9, h⟩ := h
        refine j_irem o dX12_isOrder_34 hz9 ?_
        obtain ⟨hb10, h⟩ := h
        refine j_iast o (g := 24) (fun _ _ _ => rfl) hb10 dX12_isOrder_35 ?_
        refine j_nameM (fun M11 hM11 => ?_)
        replace h := h M11 hM11
        refine j_iload_n o dX12_isOrder_36 rfl ?_
        refine j_aload_n o dX12_isOrder_37 rfl ?_
        refine j_getf o (g := 1) (slot := 1) (ci := 12) (v := .int (M11 1 1)) rfl jin_X12 (by decide) rfl jf_X12_107 (fun _ => rfl) rfl dX12_isOrder_38 ?_
        obtain ⟨hz12, h⟩ := h
        refine j_idiv o dX12_isOrder_41 hz12 ?_
        refine j_istore_n o [(2, .int (x2 / (M11 1 1))), (0, .ref (P.1 1)), (3, .int x3), (4, .int x4)] dX12_isOrder_42 (by decide) rfl ?_
        refine j_iload_n o dX12_isOrder_43 rfl ?_
        refine j_iconst o (v := 1) dX12_isOrder_44 rfl ?_
        refine j_aload_n o dX12_isOrder_45 rfl ?_
        refine j_getf o (g := 1) (slot := 38) (ci := 12) (v := .ref (P.1 24)) rfl jin_X12 (by decide) rfl jf_X12_80 (fun _ => rfl) rfl dX12_isOrder_46 ?_
        refine j_iload o dX12_isOrder_49 rfl ?_
        obtain ⟨hb13, h⟩ := h
        refine j_iald o (g := 24) (fun _ => rfl) hb13 dX12_isOrder_51 ?_
        refine j_ishl o dX12_isOrder_52 ?_
        refine j_ior o dX12_isOrder_53 ?_
        refine j_topi (fun y14 hy14 => ?_)
        replace h := h y14 hy14
        refine j_istore_n o [(3, .int y14), (2, .int (x2 / (M11 1 1))), (0, .ref (P.1 1)), (4, .int x4)] dX12_isOrder_54 (by decide) rfl ?_
        refine j_iinc o (v := x4 + (-1)) [(4, .int (x4 + (-1))), (3, .int y14), (2, .int (x2 / (M11 1 1))), (0, .ref (P.1 1))] dX12_isOrder_55 rfl rfl (by decide) rfl ?_
        refine j_goto o (tgt := 18) dX12_isOrder_58 (by decide) ?_
        exact j_pick [3, 2, 1, 0] rfl h)
    exact j_pick [3, 2, 1, 0] rfl h
  · replace h := h.2 c1
    refine j_iconst o (v := 0) dX12_isOrder_4 rfl ?_
    rw [hE]
    exact j_zret o rfl dX12_isOrder_5 ⟨_, rfl, rfl, rfl, h⟩

abbrev rm_X12_goesAlike : Room := { frames := 1, cells := 0, slots := 0, locals := 22 }
def w_X12_goesAlike (P : jP) (a1 : Int32) (a2 : Int32) (a3 : Int32) (a4 : Int32) (M : jM) (Q : Int32 → Prop) : Prop :=
  ∀ R3 : Int32 → Prop, (∀ (x1 : Int32), (
   ((M 1 2) ≤ x1 → (
    Q 1
   )) ∧ (¬ (M 1 2) ≤ x1 → (
    ∀ R43 : Prop, ((
     R3 (x1 + 1)
    ) → R43) →
    (¬ (x1 &&& a2) = 0 → (
     R43
    )) ∧ ((x1 &&& a2) = 0 → (
     w_X12_saidOn P a1 (x1 ||| a3) M (fun r4 =>
     w_X12_saidOn P a1 (x1 ||| a4) M (fun r7 =>
     (r4 = r7 → (
      R43
     )) ∧ (¬ r4 = r7 → (
      Q 0
     ))))
    ))
   ))
  ) → R3 x1) →
  R3 0
set_option maxRecDepth 20000 in
theorem c_X12_goesAlike (l : Launch) (P : jP) (a1 : Int32) (a2 : Int32) (a3 : Int32) (a4 : Int32) (M : jM) (N : jN) (Q : Int32 → Prop) (h : w_X12_goesAlike P a1 a2 a3 a4 M Q) : jC l yX12_goesAlike cX12_goesAlike 6 (some .boolean) rm_X12_goesAlike LM [.ref (P.1 1), .int a1, .int a2, .int a3, .int a4] P M N (jqi P (fun r M' N' => M = M' ∧ N = N' ∧ Q r )) := by
  refine jC_of (by decide +kernel) [(0, .ref (P.1 1)), (1, .int a1), (2, .int a2), (3, .int a3), (4, .int a4)] (Nat.le_of_ble_eq_true rfl) rfl (fun X o => ?_)
  obtain ⟨E, hE⟩ : ∃ E, E = jE X rm_X12_goesAlike (jqi P (fun r M' N' => M = M' ∧ N = N' ∧ Q r )) := ⟨_, rfl⟩
  rw [← hE]
  unfold w_X12_goesAlike at h
  refine j_iconst o (v := 0) dX12_goesAlike_0 rfl ?_
  refine j_istore o [(5, .int 0), (0, .ref (P.1 1)), (1, .int a1), (2, .int a2), (3, .int a3), (4, .int a4)] dX12_goesAlike_1 (by decide) rfl ?_
  replace h := h (fun (x1 : Int32) => J X P M N 0 0 E 6 3 [(0, .ref (P.1 1)), (1, .int a1), (2, .int a2), (3, .int a3), (4, .int a4), (5, .int x1)] []) (by
    intro x1 h
    refine j_iload o dX12_goesAlike_3 rfl ?_
    refine j_aload_n o dX12_goesAlike_5 rfl ?_
    refine j_getf o (g := 1) (slot := 2) (ci := 12) (v := .int (M 1 2)) rfl jin_X12 (by decide) rfl jf_X12_111 (fun _ => rfl) rfl dX12_goesAlike_6 ?_
    refine j_icmp_ge o (tgt := 49) dX12_goesAlike_9 (by decide) (fun c2 => ?_) (fun c2 => ?_)
    · replace h := h.1 c2
      refine j_iconst o (v := 1) dX12_goesAlike_49 rfl ?_
      rw [hE]
      exact j_zret o rfl dX12_goesAlike_50 ⟨_, rfl, rfl, rfl, rfl, h⟩
    · replace h := h.2 c2
      refine j_iload o dX12_goesAlike_12 rfl ?_
      refine j_iload_n o dX12_goesAlike_14 rfl ?_
      refine j_iand o dX12_goesAlike_15 ?_
      replace h := h (J X P M N 0 0 E 6 43 [(0, .ref (P.1 1)), (1, .int a1), (2, .int a2), (3, .int a3), (4, .int a4), (5, .int x1)] []) (by
        intro h
        refine j_iinc o (v := x1 + 1) [(5, .int (x1 + 1)), (0, .ref (P.1 1)), (1, .int a1), (2, .int a2), (3, .int a3), (4, .int a4)] dX12_goesAlike_43 rfl rfl (by decide) rfl ?_
        refine j_goto o (tgt := 3) dX12_goesAlike_46 (by decide) ?_
        exact j_pick [1, 2, 3, 4, 5, 0] rfl h)
      refine j_if_ne o (tgt := 43) dX12_goesAlike_16 (by decide) (fun c3 => ?_) (fun c3 => ?_)
      · replace h := h.1 c3
        exact j_pick [0, 1, 2, 3, 4, 5] rfl h
      · replace h := h.2 c3
        refine j_aload_n o dX12_goesAlike_19 rfl ?_
        refine j_iload_n o dX12_goesAlike_20 rfl ?_
        refine j_iload o dX12_goesAlike_21 rfl ?_
        refine j_iload_n o dX12_goesAlike_23 rfl ?_
        refine j_ior o dX12_goesAlike_24 ?_
        refine j_callVi (g := 1) (ci := 12) o (c_X12_saidOn l P a1 (x1 ||| a3) M N _ h) dX12_goesAlike_25 jc_X12_239 jn_X12_saidOn rfl rfl rfl (fun _ => rfl) rfl rfl (fun r4 Mz5 Nz6 h => ?_)
        obtain ⟨rfl, rfl, h⟩ := h
        refine j_aload_n o dX12_goesAlike_28 rfl ?_
        refine j_iload_n o dX12_goesAlike_29 rfl ?_
        refine j_iload o dX12_goesAlike_30 rfl ?_
        refine j_iload o dX12_goesAlike_32 rfl ?_
        refine j_ior o dX12_goesAlike_34 ?_
        refine j_callVi (g := 1) (ci := 12) o (c_X12_saidOn l P a1 (x1 ||| a4) M N _ h) dX12_goesAlike_35 jc_X12_239 jn_X12_saidOn rfl rfl rfl (fun _ => rfl) rfl rfl (fun r7 Mz8 Nz9 h => ?_)
        obtain ⟨rfl, rfl, h⟩ := h
        refine j_icmp_eq o (tgt := 43) dX12_goesAlike_38 (by decide) (fun c10 => ?_) (fun c10 => ?_)
        · replace h := h.1 c10
          exact j_pick [0, 1, 2, 3, 4, 5] rfl h
        · replace h := h.2 c10
          refine j_iconst o (v := 0) dX12_goesAlike_41 rfl ?_
          rw [hE]
          exact j_zret o rfl dX12_goesAlike_42 ⟨_, rfl, rfl, rfl, rfl, h⟩)
  exact j_pick [1, 2, 3, 4, 5, 0] rfl h

abbrev rm_X12_hangsOn : Room := { frames := 1, cells := 0, slots := 0, locals := 22 }
def w_X12_hangsOn (P : jP) (a1 : Int32) (a2 : Int32) (a3 : Int32) (a4 : Int32) (M : jM) (Q : Int32 → Prop) : Prop :=
  ∀ R3 : Int32 → Prop, (∀ (x1 : Int32), (
   ((M 1 2) ≤ x1 → (
    Q 0
   )) ∧ (¬ (M 1 2) ≤ x1 → (
    ∀ R47 : Prop, ((
     R3 (x1 + 1)
    ) → R47) →
    (¬ (x1 &&& a2) = 0 → (
     R47
    )) ∧ ((x1 &&& a2) = 0 → (
     w_X12_saidOn P a1 (x1 ||| a3) M (fun r4 =>
     w_X12_saidOn P a1 (x1 ||| (a3 ^^^ ((1 : Int32) <<< (a4 &&& 31)))) M (fun r7 =>
     (r4 = r7 → (
      R47
     )) ∧ (¬ r4 = r7 → (
      Q 1
     ))))
    ))
   ))
  ) → R3 x1) →
  R3 0
set_option maxRecDepth 20000 in
theorem c_X12_hangsOn (l : Launch) (P : jP) (a1 : Int32) (a2 : Int32) (a3 : Int32) (a4 : Int32) (M : jM) (N : jN) (Q : Int32 → Prop) (h : w_X12_hangsOn P a1 a2 a3 a4 M Q) : jC l yX12_hangsOn cX12_hangsOn 6 (some .boolean) rm_X12_hangsOn LM [.ref (P.1 1), .int a1, .int a2, .int a3, .int a4] P M N (jqi P (fun r M' N' => M = M' ∧ N = N' ∧ Q r )) := by
  refine jC_of (by decide +kernel) [(0, .ref (P.1 1)), (1, .int a1), (2, .int a2), (3, .int a3), (4, .int a4)] (Nat.le_of_ble_eq_true rfl) rfl (fun X o => ?_)
  obtain ⟨E, hE⟩ : ∃ E, E = jE X rm_X12_hangsOn (jqi P (fun r M' N' => M = M' ∧ N = N' ∧ Q r )) := ⟨_, rfl⟩
  rw [← hE]
  unfold w_X12_hangsOn at h
  refine j_iconst o (v := 0) dX12_hangsOn_0 rfl ?_
  refine j_istore o [(5, .int 0), (0, .ref (P.1 1)), (1, .int a1), (2, .int a2), (3, .int a3), (4, .int a4)] dX12_hangsOn_1 (by decide) rfl ?_
  replace h := h (fun (x1 : Int32) => J X P M N 0 0 E 6 3 [(0, .ref (P.1 1)), (1, .int a1), (2, .int a2), (3, .int a3), (4, .int a4), (5, .int x1)] []) (by
    intro x1 h
    refine j_iload o dX12_hangsOn_3 rfl ?_
    refine j_aload_n o dX12_hangsOn_5 rfl ?_
    refine j_getf o (g := 1) (slot := 2) (ci := 12) (v := .int (M 1 2)) rfl jin_X12 (by decide) rfl jf_X12_111 (fun _ => rfl) rfl dX12_hangsOn_6 ?_
    refine j_icmp_ge o (tgt := 53) dX12_hangsOn_9 (by decide) (fun c2 => ?_) (fun c2 => ?_)
    · replace h := h.1 c2
      refine j_iconst o (v := 0) dX12_hangsOn_53 rfl ?_
      rw [hE]
      exact j_zret o rfl dX12_hangsOn_54 ⟨_, rfl, rfl, rfl, rfl, h⟩
    · replace h := h.2 c2
      refine j_iload o dX12_hangsOn_12 rfl ?_
      refine j_iload_n o dX12_hangsOn_14 rfl ?_
      refine j_iand o dX12_hangsOn_15 ?_
      replace h := h (J X P M N 0 0 E 6 47 [(0, .ref (P.1 1)), (1, .int a1), (2, .int a2), (3, .int a3), (4, .int a4), (5, .int x1)] []) (by
        intro h
        refine j_iinc o (v := x1 + 1) [(5, .int (x1 + 1)), (0, .ref (P.1 1)), (1, .int a1), (2, .int a2), (3, .int a3), (4, .int a4)] dX12_hangsOn_47 rfl rfl (by decide) rfl ?_
        refine j_goto o (tgt := 3) dX12_hangsOn_50 (by decide) ?_
        exact j_pick [1, 2, 3, 4, 5, 0] rfl h)
      refine j_if_ne o (tgt := 47) dX12_hangsOn_16 (by decide) (fun c3 => ?_) (fun c3 => ?_)
      · replace h := h.1 c3
        exact j_pick [0, 1, 2, 3, 4, 5] rfl h
      · replace h := h.2 c3
        refine j_aload_n o dX12_hangsOn_19 rfl ?_
        refine j_iload_n o dX12_hangsOn_20 rfl ?_
        refine j_iload o dX12_hangsOn_21 rfl ?_
        refine j_iload_n o dX12_hangsOn_23 rfl ?_
        refine j_ior o dX12_hangsOn_24 ?_
        refine j_callVi (g := 1) (ci := 12) o (c_X12_saidOn l P a1 (x1 ||| a3) M N _ h) dX12_hangsOn_25 jc_X12_239 jn_X12_saidOn rfl rfl rfl (fun _ => rfl) rfl rfl (fun r4 Mz5 Nz6 h => ?_)
        obtain ⟨rfl, rfl, h⟩ := h
        refine j_aload_n o dX12_hangsOn_28 rfl ?_
        refine j_iload_n o dX12_hangsOn_29 rfl ?_
        refine j_iload o dX12_hangsOn_30 rfl ?_
        refine j_iload_n o dX12_hangsOn_32 rfl ?_
        refine j_iconst o (v := 1) dX12_hangsOn_33 rfl ?_
        refine j_iload o dX12_hangsOn_34 rfl ?_
        refine j_ishl o dX12_hangsOn_36 ?_
        refine j_ixor o dX12_hangsOn_37 ?_
        refine j_ior o dX12_hangsOn_38 ?_
        refine j_callVi (g := 1) (ci := 12) o (c_X12_saidOn l P a1 (x1 ||| (a3 ^^^ ((1 : Int32) <<< (a4 &&& 31)))) M N _ h) dX12_hangsOn_39 jc_X12_239 jn_X12_saidOn rfl rfl rfl (fun _ => rfl) rfl rfl (fun r7 Mz8 Nz9 h => ?_)
        obtain ⟨rfl, rfl, h⟩ := h
        refine j_icmp_eq o (tgt := 47) dX12_hangsOn_42 (by decide) (fun c10 => ?_) (fun c10 => ?_)
        · replace h := h.1 c10
          exact j_pick [0, 1, 2, 3, 4, 5] rfl h
        · replace h := h.2 c10
          refine j_iconst o (v := 1) dX12_hangsOn_45 rfl ?_
          rw [hE]
          exact j_zret o rfl dX12_hangsOn_46 ⟨_, rfl, rfl, rfl, rfl, h⟩)
  exact j_pick [1, 2, 3, 4, 5, 0] rfl h

abbrev rm_X12_layBoxes : Room := { frames := 2, cells := 0, slots := 0, locals := 47 }
def w_X12_layBoxes (P : jP) (a1 : Int32) (a2 : Int32) (M : jM) (Q : jM → Prop) : Prop :=
  ∀ R2 : Int32 → jM → Prop, (∀ (x1 : Int32) (M2 : jM), (
   ((M2 1 1) ≤ x1 → (
    ∀ R30 : Int32 → jM → Prop, (∀ (x4 : Int32) (M5 : jM), (
     ((M5 1 2) ≤ x4 → (
      Q M5
     )) ∧ (¬ (M5 1 2) ≤ x4 → (
      ∀ R186 : jM → Prop, (∀ (M7 : jM), (
       R30 (x4 + 1) M7
      ) → R186 M7) →
      ((x4 &&& (a2 ^^^ (-1))) = 0 → (
       ∀ R55 : Int32 → Int32 → Prop, (∀ (x9 : Int32) (x10 : Int32), (
        ∀ R110 : Prop, ((
         ∀ R125 : Int32 → Prop, (∀ (x11 : Int32), (
          vp_in x4 (512) ∧
          jb x11 ∧
          ∀ R129 : Int32 → jM → Prop, (∀ (x14 : Int32) (M15 : jM), (
           ((M15 1 1) ≤ x14 → (
            R186 M15
           )) ∧ (¬ (M15 1 1) ≤ x14 → (
            (¬ x9 = 0 → (
             R186 M15
            )) ∧ (x9 = 0 → (
             w_X12_has P a2 x14 (fun r18 =>
             ∀ R180 : jM → Prop, (∀ (M21 : jM), (
              R129 (x14 + 1) M21
             ) → R180 M21) →
             (¬ r18 = 0 → (
              R180 M15
             )) ∧ (r18 = 0 → (
              w_X12_hangsOn P a1 a2 x4 x14 M15 (fun r23 =>
              (r23 = 0 → (
               R180 M15
              )) ∧ (¬ r23 = 0 → (
               vp_in ((9 * a2) + x14) (4608) ∧
               vp_in ((9 * a2) + x14) (4608) ∧
               ∀ M29 : jM, M29 = upM M15 25 ((9 * a2) + x14).toNatClampNeg ((M15 25 ((9 * a2) + x14).toNatClampNeg) + 1) →
               R180 M29
              )))
             )))
            ))
           ))
          ) → R129 x14 M15) →
          R129 0 (upM M5 27 x4.toNatClampNeg x11)
         ) → R125 x11) →
         (¬ x9 = 0 → (
          R125 0
         )) ∧ (x9 = 0 → (
          R125 1
         ))
        ) → R110) →
        (x4 ≤ x10 → (
         R110
        )) ∧ (¬ x4 ≤ x10 → (
         (¬ x9 = 0 → (
          R110
         )) ∧ (x9 = 0 → (
          ∀ R102 : Int32 → Prop, (∀ (x33 : Int32), (
           R55 x33 (x10 + 1)
          ) → R102 x33) →
          (¬ (x10 &&& (a2 ^^^ (-1))) = 0 → (
           R102 0
          )) ∧ ((x10 &&& (a2 ^^^ (-1))) = 0 → (
           vp_in x10 (512) ∧
           ((M5 27 x10.toNatClampNeg) = 0 → (
            R102 0
           )) ∧ (¬ (M5 27 x10.toNatClampNeg) = 0 → (
            w_X12_goesAlike P a1 a2 x4 x10 M5 (fun r37 =>
            (r37 = 0 → (
             R102 0
            )) ∧ (¬ r37 = 0 → (
             R102 1
            )))
           ))
          ))
         ))
        ))
       ) → R55 x9 x10) →
       R55 0 0
      )) ∧ (¬ (x4 &&& (a2 ^^^ (-1))) = 0 → (
       R186 M5
      ))
     ))
    ) → R30 x4 M5) →
    R30 0 M2
   )) ∧ (¬ (M2 1 1) ≤ x1 → (
    vp_in ((9 * a2) + x1) (4608) ∧
    ∀ M42 : jM, M42 = upM M2 25 ((9 * a2) + x1).toNatClampNeg 0 →
    R2 (x1 + 1) M42
   ))
  ) → R2 x1 M2) →
  R2 0 M
set_option maxRecDepth 20000 in
theorem c_X12_layBoxes (l : Launch) (P : jP) (a1 : Int32) (a2 : Int32) (M : jM) (N : jN) (Q : jM → Prop) (h : w_X12_layBoxes P a1 a2 M Q) : jC l yX12_layBoxes cX12_layBoxes 6 none rm_X12_layBoxes LM [.ref (P.1 1), .int a1, .int a2] P M N (jqv P (fun M' N' => N = N' ∧ Q M' )) := by
  refine jC_of (by decide +kernel) [(0, .ref (P.1 1)), (1, .int a1), (2, .int a2)] (Nat.le_of_ble_eq_true rfl) rfl (fun X o => ?_)
  obtain ⟨E, hE⟩ : ∃ E, E = jE X rm_X12_layBoxes (jqv P (fun M' N' => N = N' ∧ Q M' )) := ⟨_, rfl⟩
  rw [← hE]
  unfold w_X12_layBoxes at h
  refine j_iconst o (v := 0) dX12_layBoxes_0 rfl ?_
  refine j_istore_n o [(3, .int 0), (0, .ref (P.1 1)), (1, .int a1), (2, .int a2)] dX12_layBoxes_1 (by decide) rfl ?_
  replace h := h (fun (x1 : Int32) (M2 : jM) => J X P M2 N 0 0 E 6 2 [(0, .ref (P.1 1)), (1, .int a1), (2, .int a2), (3, .int x1)] []) (by
    intro x1 M2 h
    refine j_iload_n o dX12_layBoxes_2 rfl ?_
    refine j_aload_n o dX12_layBoxes_3 rfl ?_
    refine j_getf o (g := 1) (slot := 1) (ci := 12) (v := .int (M2 1 1)) rfl jin_X12 (by decide) rfl jf_X12_107 (fun _ => rfl) rfl dX12_layBoxes_4 ?_
    refine j_icmp_ge o (tgt := 28) dX12_layBoxes_7 (by decide) (fun c3 => ?_) (fun c3 => ?_)
    · replace h := h.1 c3
      refine j_iconst o (v := 0) dX12_layBoxes_28 rfl ?_
      refine j_istore_n o [(3, .int 0), (0, .ref (P.1 1)), (1, .int a1), (2, .int a2)] dX12_layBoxes_29 (by decide) rfl ?_
      replace h := h (fun (x4 : Int32) (M5 : jM) => J X P M5 N 0 0 E 6 30 [(0, .ref (P.1 1)), (1, .int a1), (2, .int a2), (3, .int x4)] []) (by
        intro x4 M5 h
        refine j_iload_n o dX12_layBoxes_30 rfl ?_
        refine j_aload_n o dX12_layBoxes_31 rfl ?_
        refine j_getf o (g := 1) (slot := 2) (ci := 12) (v := .int (M5 1 2)) rfl jin_X12 (by decide) rfl jf_X12_111 (fun _ => rfl) rfl dX12_layBoxes_32 ?_
        refine j_icmp_ge o (tgt := 192) dX12_layBoxes_35 (by decide) (fun c6 => ?_) (fun c6 => ?_)
        · replace h := h.1 c6
          rw [hE]
          exact j_vret o dX12_layBoxes_192 ⟨rfl, rfl, rfl, h⟩
        · replace h := h.2 c6
          refine j_iload_n o dX12_layBoxes_38 rfl ?_
          refine j_iload_n o dX12_layBoxes_39 rfl ?_
          refine j_iconst o (v := (-1)) dX12_layBoxes_40 rfl ?_
          refine j_ixor o dX12_layBoxes_41 ?_
          refine j_iand o dX12_layBoxes_42 ?_
          replace h := h (fun (M7 : jM) => J X P M7 N 0 0 E 6 186 [(0, .ref (P.1 1)), (1, .int a1), (2, .int a2), (3, .int x4)] []) (by
            intro M7 h
            refine j_iinc o (v := x4 + 1) [(3, .int (x4 + 1)), (0, .ref (P.1 1)), (1, .int a1), (2, .int a2)] dX12_layBoxes_186 rfl rfl (by decide) rfl ?_
            refine j_goto o (tgt := 30) dX12_layBoxes_189 (by decide) ?_
            exact j_pick [1, 2, 3, 0] rfl h)
          refine j_if_eq o (tgt := 49) dX12_layBoxes_43 (by decide) (fun c8 => ?_) (fun c8 => ?_)
          · replace h := h.1 c8
            refine j_iconst o (v := 0) dX12_layBoxes_49 rfl ?_
            refine j_istore o [(4, .int 0), (0, .ref (P.1 1)), (1, .int a1), (2, .int a2), (3, .int x4)] dX12_layBoxes_50 (by decide) rfl ?_
            refine j_iconst o (v := 0) dX12_layBoxes_52 rfl ?_
            refine j_istore o [(5, .int 0), (4, .int 0), (0, .ref (P.1 1)), (1, .int a1), (2, .int a2), (3, .int x4)] dX12_layBoxes_53 (by decide) rfl ?_
            replace h := h (fun (x9 : Int32) (x10 : Int32) => J X P M5 N 0 0 E 6 55 [(0, .ref (P.1 1)), (1, .int a1), (2, .int a2), (3, .int x4), (4, .int x9), (5, .int x10)] []) (by
              intro x9 x10 h
              refine j_iload o dX12_layBoxes_55 rfl ?_
              refine j_iload_n o dX12_layBoxes_57 rfl ?_
              replace h := h (J X P M5 N 0 0 E 6 110 [(0, .ref (P.1 1)), (1, .int a1), (2, .int a2), (3, .int x4), (4, .int x9)] []) (by
                intro h
                refine j_aload_n o dX12_layBoxes_110 rfl ?_
                refine j_getf o (g := 1) (slot := 41) (ci := 12) (v := .ref (P.1 27)) rfl jin_X12 (by decide) rfl jf_X12_89 (fun _ => rfl) rfl dX12_layBoxes_111 ?_
                refine j_iload_n o dX12_layBoxes_114 rfl ?_
                refine j_iload o dX12_layBoxes_115 rfl ?_
                replace h := h (fun (x11 : Int32) => J X P M5 N 0 0 E 6 125 [(0, .ref (P.1 1)), (1, .int a1), (2, .int a2), (3, .int x4), (4, .int x9)] [.int x11, .int x4, .ref (P.1 27)]) (by
                  intro x11 h
                  obtain ⟨hb12, h⟩ := h
                  obtain ⟨hz13, h⟩ := h
                  refine j_zast o (g := 27) (fun _ _ _ => rfl) hb12 hz13.1 dX12_layBoxes_125 ?_
                  refine j_iconst o (v := 0) dX12_layBoxes_126 rfl ?_
                  refine j_istore o [(5, .int 0), (0, .ref (P.1 1)), (1, .int a1), (2, .int a2), (3, .int x4), (4, .int x9)] dX12_layBoxes_127 (by decide) rfl ?_
                  replace h := h (fun (x14 : Int32) (M15 : jM) => J X P M15 N 0 0 E 6 129 [(0, .ref (P.1 1)), (1, .int a1), (2, .int a2), (3, .int x4), (4, .int x9), (5, .int x14)] []) (by
                    intro x14 M15 h
                    refine j_iload o dX12_layBoxes_129 rfl ?_
                    refine j_aload_n o dX12_layBoxes_131 rfl ?_
                    refine j_getf o (g := 1) (slot := 1) (ci := 12) (v := .int (M15 1 1)) rfl jin_X12 (by decide) rfl jf_X12_107 (fun _ => rfl) rfl dX12_layBoxes_132 ?_
                    refine j_icmp_ge o (tgt := 186) dX12_layBoxes_135 (by decide) (fun c16 => ?_) (fun c16 => ?_)
                    · replace h := h.1 c16
                      exact j_pick [0, 1, 2, 3] rfl h
                    · replace h := h.2 c16
                      refine j_iload o dX12_layBoxes_138 rfl ?_
                      refine j_if_ne o (tgt := 186) dX12_layBoxes_140 (by decide) (fun c17 => ?_) (fun c17 => ?_)
                      · replace h := h.1 c17
                        exact j_pick [0, 1, 2, 3] rfl h
                      · replace h := h.2 c17
                        refine j_iload_n o dX12_layBoxes_143 rfl ?_
                        refine j_iload o dX12_layBoxes_144 rfl ?_
                        refine j_callSi o (c_X12_has l P a2 x14 M15 N _ h) dX12_layBoxes_146 jc_X12_157 jn_X12_has rfl rfl rfl rfl (fun r18 Mz19 Nz20 h => ?_)
                        obtain ⟨rfl, rfl, h⟩ := h
                        replace h := h (fun (M21 : jM) => J X P M21 N 0 0 E 6 180 [(0, .ref (P.1 1)), (1, .int a1), (2, .int a2), (3, .int x4), (4, .int x9), (5, .int x14)] []) (by
                          intro M21 h
                          refine j_iinc o (v := x14 + 1) [(5, .int (x14 + 1)), (0, .ref (P.1 1)), (1, .int a1), (2, .int a2), (3, .int x4), (4, .int x9)] dX12_layBoxes_180 rfl rfl (by decide) rfl ?_
                          refine j_goto o (tgt := 129) dX12_layBoxes_183 (by decide) ?_
                          exact j_pick [1, 2, 3, 4, 5, 0] rfl h)
                        refine j_if_ne o (tgt := 180) dX12_layBoxes_149 (by decide) (fun c22 => ?_) (fun c22 => ?_)
                        · replace h := h.1 c22
                          exact j_pick [0, 1, 2, 3, 4, 5] rfl h
                        · replace h := h.2 c22
                          refine j_aload_n o dX12_layBoxes_152 rfl ?_
                          refine j_iload_n o dX12_layBoxes_153 rfl ?_
                          refine j_iload_n o dX12_layBoxes_154 rfl ?_
                          refine j_iload_n o dX12_layBoxes_155 rfl ?_
                          refine j_iload o dX12_layBoxes_156 rfl ?_
                          refine j_callVi (g := 1) (ci := 12) o (c_X12_hangsOn l P a1 a2 x4 x14 M15 N _ h) dX12_layBoxes_158 jc_X12_359 jn_X12_hangsOn rfl rfl rfl (fun _ => rfl) rfl rfl (fun r23 Mz24 Nz25 h => ?_)
                          obtain ⟨rfl, rfl, h⟩ := h
                          refine j_if_eq o (tgt := 180) dX12_layBoxes_161 (by decide) (fun c26 => ?_) (fun c26 => ?_)
                          · replace h := h.1 c26
                            exact j_pick [0, 1, 2, 3, 4, 5] rfl h
                          · replace h := h.2 c26
                            refine j_aload_n o dX12_layBoxes_164 rfl ?_
                            refine j_getf o (g := 1) (slot := 39) (ci := 12) (v := .ref (P.1 25)) rfl jin_X12 (by decide) rfl jf_X12_83 (fun _ => rfl) rfl dX12_layBoxes_165 ?_
                            refine j_bipush o (v := 9) dX12_layBoxes_168 rfl ?_
                            refine j_iload_n o dX12_layBoxes_170 rfl ?_
                            refine j_imul o dX12_layBoxes_171 ?_
                            refine j_iload o dX12_layBoxes_172 rfl ?_
                            refine j_iadd o dX12_layBoxes_174 ?_
                            refine j_dup2 o dX12_layBoxes_175 rfl rfl ?_
                            obtain ⟨hb27, h⟩ := h
                            refine j_iald o (g := 25) (fun _ => rfl) hb27 dX12_layBoxes_176 ?_
                            refine j_iconst o (v := 1) dX12_layBoxes_177 rfl ?_
                            refine j_iadd o dX12_layBoxes_178 ?_
                            obtain ⟨hb28, h⟩ := h
                            refine j_iast o (g := 25) (fun _ _ _ => rfl) hb28 dX12_layBoxes_179 ?_
                            refine j_nameM (fun M29 hM29 => ?_)
                            replace h := h M29 hM29
                            exact j_pick [0, 1, 2, 3, 4, 5] rfl h)
                  exact j_pick [1, 2, 3, 4, 5, 0] rfl h)
                refine j_if_ne o (tgt := 124) dX12_layBoxes_117 (by decide) (fun c30 => ?_) (fun c30 => ?_)
                · replace h := h.1 c30
                  refine j_iconst o (v := 0) dX12_layBoxes_124 rfl ?_
                  exact j_pick [0, 1, 2, 3, 4] rfl h
                · replace h := h.2 c30
                  refine j_iconst o (v := 1) dX12_layBoxes_120 rfl ?_
                  refine j_goto o (tgt := 125) dX12_layBoxes_121 (by decide) ?_
                  exact j_pick [0, 1, 2, 3, 4] rfl h)
              refine j_icmp_ge o (tgt := 110) dX12_layBoxes_58 (by decide) (fun c31 => ?_) (fun c31 => ?_)
              · replace h := h.1 c31
                exact j_pick [0, 1, 2, 3, 4] rfl h
              · replace h := h.2 c31
                refine j_iload o dX12_layBoxes_61 rfl ?_
                refine j_if_ne o (tgt := 110) dX12_layBoxes_63 (by decide) (fun c32 => ?_) (fun c32 => ?_)
                · replace h := h.1 c32
                  exact j_pick [0, 1, 2, 3, 4] rfl h
                · replace h := h.2 c32
                  refine j_iload o dX12_layBoxes_66 rfl ?_
                  refine j_iload_n o dX12_layBoxes_68 rfl ?_
                  refine j_iconst o (v := (-1)) dX12_layBoxes_69 rfl ?_
                  refine j_ixor o dX12_layBoxes_70 ?_
                  refine j_iand o dX12_layBoxes_71 ?_
                  replace h := h (fun (x33 : Int32) => J X P M5 N 0 0 E 6 102 [(0, .ref (P.1 1)), (1, .int a1), (2, .int a2), (3, .int x4), (5, .int x10)] [.int x33]) (by
                    intro x33 h
                    refine j_istore o [(4, .int x33), (0, .ref (P.1 1)), (1, .int a1), (2, .int a2), (3, .int x4), (5, .int x10)] dX12_layBoxes_102 (by decide) rfl ?_
                    refine j_iinc o (v := x10 + 1) [(5, .int (x10 + 1)), (4, .int x33), (0, .ref (P.1 1)), (1, .int a1), (2, .int a2), (3, .int x4)] dX12_layBoxes_104 rfl rfl (by decide) rfl ?_
                    refine j_goto o (tgt := 55) dX12_layBoxes_107 (by decide) ?_
                    exact j_pick [2, 3, 4, 5, 1, 0] rfl h)
                  refine j_if_ne o (tgt := 101) dX12_layBoxes_72 (by decide) (fun c34 => ?_) (fun c34 => ?_)
                  · replace h := h.1 c34
                    refine j_iconst o (v := 0) dX12_layBoxes_101 rfl ?_
                    exact j_pick [0, 1, 2, 3, 5] rfl h
                  · replace h := h.2 c34
                    refine j_aload_n o dX12_layBoxes_75 rfl ?_
                    refine j_getf o (g := 1) (slot := 41) (ci := 12) (v := .ref (P.1 27)) rfl jin_X12 (by decide) rfl jf_X12_89 (fun _ => rfl) rfl dX12_layBoxes_76 ?_
                    refine j_iload o dX12_layBoxes_79 rfl ?_
                    obtain ⟨hb35, h⟩ := h
                    refine j_zald o (g := 27) (fun _ => rfl) hb35 dX12_layBoxes_81 ?_
                    refine j_if_eq o (tgt := 101) dX12_layBoxes_82 (by decide) (fun c36 => ?_) (fun c36 => ?_)
                    · replace h := h.1 c36
                      refine j_iconst o (v := 0) dX12_layBoxes_101 rfl ?_
                      exact j_pick [0, 1, 2, 3, 5] rfl h
                    · replace h := h.2 c36
                      refine j_aload_n o dX12_layBoxes_85 rfl ?_
                      refine j_iload_n o dX12_layBoxes_86 rfl ?_
                      refine j_iload_n o dX12_layBoxes_87 rfl ?_
                      refine j_iload_n o dX12_layBoxes_88 rfl ?_
                      refine j_iload o dX12_layBoxes_89 rfl ?_
                      refine j_callVi (g := 1) (ci := 12) o (c_X12_goesAlike l P a1 a2 x4 x10 M5 N _ h) dX12_layBoxes_91 jc_X12_356 jn_X12_goesAlike rfl rfl rfl (fun _ => rfl) rfl rfl (fun r37 Mz38 Nz39 h => ?_)
                      obtain ⟨rfl, rfl, h⟩ := h
                      refine j_if_eq o (tgt := 101) dX12_layBoxes_94 (by decide) (fun c40 => ?_) (fun c40 => ?_)
                      · replace h := h.1 c40
                        refine j_iconst o (v := 0) dX12_layBoxes_101 rfl ?_
                        exact j_pick [0, 1, 2, 3, 5] rfl h
                      · replace h := h.2 c40
                        refine j_iconst o (v := 1) dX12_layBoxes_97 rfl ?_
                        refine j_goto o (tgt := 102) dX12_layBoxes_98 (by decide) ?_
                        exact j_pick [0, 1, 2, 3, 5] rfl h)
            exact j_pick [2, 3, 4, 5, 1, 0] rfl h
          · replace h := h.2 c8
            refine j_goto o (tgt := 186) dX12_layBoxes_46 (by decide) ?_
            exact j_pick [0, 1, 2, 3] rfl h)
      exact j_pick [1, 2, 3, 0] rfl h
    · replace h := h.2 c3
      refine j_aload_n o dX12_layBoxes_10 rfl ?_
      refine j_getf o (g := 1) (slot := 39) (ci := 12) (v := .ref (P.1 25)) rfl jin_X12 (by decide) rfl jf_X12_83 (fun _ => rfl) rfl dX12_layBoxes_11 ?_
      refine j_bipush o (v := 9) dX12_layBoxes_14 rfl ?_
      refine j_iload_n o dX12_layBoxes_16 rfl ?_
      refine j_imul o dX12_layBoxes_17 ?_
      refine j_iload_n o dX12_layBoxes_18 rfl ?_
      refine j_iadd o dX12_layBoxes_19 ?_
      refine j_iconst o (v := 0) dX12_layBoxes_20 rfl ?_
      obtain ⟨hb41, h⟩ := h
      refine j_iast o (g := 25) (fun _ _ _ => rfl) hb41 dX12_layBoxes_21 ?_
      refine j_nameM (fun M42 hM42 => ?_)
      replace h := h M42 hM42
      refine j_iinc o (v := x1 + 1) [(3, .int (x1 + 1)), (0, .ref (P.1 1)), (1, .int a1), (2, .int a2)] dX12_layBoxes_22 rfl rfl (by decide) rfl ?_
      refine j_goto o (tgt := 2) dX12_layBoxes_25 (by decide) ?_
      exact j_pick [1, 2, 3, 0] rfl h)
  exact j_pick [1, 2, 3, 0] rfl h

abbrev rm_X12_chart : Room := { frames := 3, cells := 0, slots := 0, locals := 72 }
def w_X12_chart (P : jP) (a1 : Int32) (a2 : Int32) (a3 : Int32) (M : jM) (Q : Int32 → jM → Prop) : Prop :=
  w_X12_isLaw P a1 (upM M 1 0 0) (fun r1 =>
  (r1 = 0 → (
   Q (-1) (upM M 1 0 0)
  )) ∧ (¬ r1 = 0 → (
   w_X12_isIn P a3 0 1 (fun r5 =>
   (r5 = 0 → (
    Q (-1) (upM M 1 0 0)
   )) ∧ (¬ r5 = 0 → (
    w_X12_isOrder P a2 (upM M 1 0 0) (fun r9 M10 =>
    (¬ r9 = 0 → (
     ∀ R44 : Int32 → Int32 → Int32 → Int32 → jM → Prop, (∀ (x13 : Int32) (x14 : Int32) (x15 : Int32) (x16 : Int32) (M17 : jM), (
      ((M17 1 1) ≤ x16 → (
       (¬ a3 = 0 → (
        Q x15 M17
       )) ∧ (a3 = 0 → (
        Q x14 M17
       ))
      )) ∧ (¬ (M17 1 1) ≤ x16 → (
       w_X12_layBoxes P a1 x13 M17 (fun M20 =>
       vp_in x16 (9) ∧
       vp_in ((9 * x13) + (M20 24 x16.toNatClampNeg)) (4608) ∧
       ∀ y24 : Int32, y24 = x14 + (M20 25 ((9 * x13) + (M20 24 x16.toNatClampNeg)).toNatClampNeg) →
       vp_in x16 (9) ∧
       vp_in ((9 * x13) + (M20 24 x16.toNatClampNeg)) (4608) ∧
       ∀ y27 : Int32, y27 = (if x15 < (M20 25 ((9 * x13) + (M20 24 x16.toNatClampNeg)).toNatClampNeg) then (M20 25 ((9 * x13) + (M20 24 x16.toNatClampNeg)).toNatClampNeg) else x15) →
       vp_in x16 (9) ∧
       ∀ y29 : Int32, y29 = x13 ||| ((1 : Int32) <<< ((M20 24 x16.toNatClampNeg) &&& 31)) →
       R44 y29 y24 y27 (x16 + 1) M20)
      ))
     ) → R44 x13 x14 x15 x16 M17) →
     R44 0 0 0 0 M10
    )) ∧ (r9 = 0 → (
     Q (-1) M10
    )))
   )))
  )))
set_option maxRecDepth 20000 in
theorem c_X12_chart (l : Launch) (P : jP) (a1 : Int32) (a2 : Int32) (a3 : Int32) (M : jM) (N : jN) (Q : Int32 → jM → Prop) (h : w_X12_chart P a1 a2 a3 M Q) : jC l yX12_chart cX12_chart 8 (some .int) rm_X12_chart LM [.ref (P.1 1), .int a1, .int a2, .int a3] P M N (jqi P (fun r M' N' => N = N' ∧ Q r M' )) := by
  refine jC_of (by decide +kernel) [(0, .ref (P.1 1)), (1, .int a1), (2, .int a2), (3, .int a3)] (Nat.le_of_ble_eq_true rfl) rfl (fun X o => ?_)
  obtain ⟨E, hE⟩ : ∃ E, E = jE X rm_X12_chart (jqi P (fun r M' N' => N = N' ∧ Q r M' )) := ⟨_, rfl⟩
  rw [← hE]
  unfold w_X12_chart at h
  refine j_aload_n o dX12_chart_0 rfl ?_
  refine j_iconst o (v := 0) dX12_chart_1 rfl ?_
  refine j_putf o (M1 := upM M 1 0 0) (N1 := N) (g := 1) (slot := 0) (ci := 12) (ty := .int) rfl jin_X12 tyX12_ok nmX12 (by decide) rfl rfl jf_X12_114 (by decide +kernel) rfl rfl (Nat.le_of_ble_eq_true rfl) (fun _ => rfl) (fun _ => rfl) (fun _ hj => upM_ne _ _ _ hj) (fun _ _ => rfl) dX12_chart_2 ?_
  refine j_aload_n o dX12_chart_5 rfl ?_
  refine j_iload_n o dX12_chart_6 rfl ?_
  refine j_callVi (g := 1) (ci := 12) o (c_X12_isLaw l P a1 (upM M 1 0 0) N _ h) dX12_chart_7 jc_X12_233 jn_X12_isLaw rfl rfl rfl (fun _ => rfl) rfl rfl (fun r1 Mz2 Nz3 h => ?_)
  obtain ⟨rfl, rfl, h⟩ := h
  refine j_if_eq o (tgt := 30) dX12_chart_10 (by decide) (fun c4 => ?_) (fun c4 => ?_)
  · replace h := h.1 c4
    refine j_iconst o (v := (-1)) dX12_chart_30 rfl ?_
    rw [hE]
    exact j_iret o dX12_chart_31 ⟨_, rfl, rfl, rfl, h⟩
  · replace h := h.2 c4
    refine j_iload_n o dX12_chart_13 rfl ?_
    refine j_iconst o (v := 0) dX12_chart_14 rfl ?_
    refine j_iconst o (v := 1) dX12_chart_15 rfl ?_
    refine j_callSi o (c_X12_isIn l P a3 0 1 (upM M 1 0 0) N _ h) dX12_chart_16 jc_X12_209 jn_X12_isIn rfl rfl rfl rfl (fun r5 Mz6 Nz7 h => ?_)
    obtain ⟨rfl, rfl, h⟩ := h
    refine j_if_eq o (tgt := 30) dX12_chart_19 (by decide) (fun c8 => ?_) (fun c8 => ?_)
    · replace h := h.1 c8
      refine j_iconst o (v := (-1)) dX12_chart_30 rfl ?_
      rw [hE]
      exact j_iret o dX12_chart_31 ⟨_, rfl, rfl, rfl, h⟩
    · replace h := h.2 c8
      refine j_aload_n o dX12_chart_22 rfl ?_
      refine j_iload_n o dX12_chart_23 rfl ?_
      refine j_callVi (g := 1) (ci := 12) o (c_X12_isOrder l P a2 (upM M 1 0 0) N _ h) dX12_chart_24 jc_X12_362 jn_X12_isOrder rfl rfl rfl (fun _ => rfl) rfl rfl (fun r9 M10 Nz11 h => ?_)
      obtain ⟨rfl, h⟩ := h
      refine j_if_ne o (tgt := 32) dX12_chart_27 (by decide) (fun c12 => ?_) (fun c12 => ?_)
      · replace h := h.1 c12
        refine j_iconst o (v := 0) dX12_chart_32 rfl ?_
        refine j_istore o [(4, .int 0), (0, .ref (P.1 1)), (1, .int a1), (2, .int a2), (3, .int a3)] dX12_chart_33 (by decide) rfl ?_
        refine j_iconst o (v := 0) dX12_chart_35 rfl ?_
        refine j_istore o [(5, .int 0), (4, .int 0), (0, .ref (P.1 1)), (1, .int a1), (2, .int a2), (3, .int a3)] dX12_chart_36 (by decide) rfl ?_
        refine j_iconst o (v := 0) dX12_chart_38 rfl ?_
        refine j_istore o [(6, .int 0), (5, .int 0), (4, .int 0), (0, .ref (P.1 1)), (1, .int a1), (2, .int a2), (3, .int a3)] dX12_chart_39 (by decide) rfl ?_
        refine j_iconst o (v := 0) dX12_chart_41 rfl ?_
        refine j_istore o [(7, .int 0), (6, .int 0), (5, .int 0), (4, .int 0), (0, .ref (P.1 1)), (1, .int a1), (2, .int a2), (3, .int a3)] dX12_chart_42 (by decide) rfl ?_
        replace h := h (fun (x13 : Int32) (x14 : Int32) (x15 : Int32) (x16 : Int32) (M17 : jM) => J X P M17 N 0 0 E 8 44 [(0, .ref (P.1 1)), (1, .int a1), (3, .int a3), (4, .int x13), (5, .int x14), (6, .int x15), (7, .int x16)] []) (by
          intro x13 x14 x15 x16 M17 h
          refine j_iload o dX12_chart_44 rfl ?_
          refine j_aload_n o dX12_chart_46 rfl ?_
          refine j_getf o (g := 1) (slot := 1) (ci := 12) (v := .int (M17 1 1)) rfl jin_X12 (by decide) rfl jf_X12_107 (fun _ => rfl) rfl dX12_chart_47 ?_
          refine j_icmp_ge o (tgt := 128) dX12_chart_50 (by decide) (fun c18 => ?_) (fun c18 => ?_)
          · replace h := h.1 c18
            refine j_iload_n o dX12_chart_128 rfl ?_
            refine j_if_ne o (tgt := 137) dX12_chart_129 (by decide) (fun c19 => ?_) (fun c19 => ?_)
            · replace h := h.1 c19
              refine j_iload o dX12_chart_137 rfl ?_
              rw [hE]
              exact j_iret o dX12_chart_139 ⟨_, rfl, rfl, rfl, h⟩
            · replace h := h.2 c19
              refine j_iload o dX12_chart_132 rfl ?_
              refine j_goto o (tgt := 139) dX12_chart_134 (by decide) ?_
              rw [hE]
              exact j_iret o dX12_chart_139 ⟨_, rfl, rfl, rfl, h⟩
          · replace h := h.2 c18
            refine j_aload_n o dX12_chart_53 rfl ?_
            refine j_iload_n o dX12_chart_54 rfl ?_
            refine j_iload o dX12_chart_55 rfl ?_
            refine j_callVv (g := 1) (ci := 12) o (c_X12_layBoxes l P a1 x13 M17 N _ h) dX12_chart_57 jc_X12_365 jn_X12_layBoxes rfl rfl rfl (fun _ => rfl) rfl rfl (fun M20 Nz21 h => ?_)
            obtain ⟨rfl, h⟩ := h
            refine j_iload o dX12_chart_60 rfl ?_
            refine j_aload_n o dX12_chart_62 rfl ?_
            refine j_getf o (g := 1) (slot := 39) (ci := 12) (v := .ref (P.1 25)) rfl jin_X12 (by decide) rfl jf_X12_83 (fun _ => rfl) rfl dX12_chart_63 ?_
            refine j_bipush o (v := 9) dX12_chart_66 rfl ?_
            refine j_iload o dX12_chart_68 rfl ?_
            refine j_imul o dX12_chart_70 ?_
            refine j_aload_n o dX12_chart_71 rfl ?_
            refine j_getf o (g := 1) (slot := 38) (ci := 12) (v := .ref (P.1 24)) rfl jin_X12 (by decide) rfl jf_X12_80 (fun _ => rfl) rfl dX12_chart_72 ?_
            refine j_iload o dX12_chart_75 rfl ?_
            obtain ⟨hb22, h⟩ := h
            refine j_iald o (g := 24) (fun _ => rfl) hb22 dX12_chart_77 ?_
            refine j_iadd o dX12_chart_78 ?_
            obtain ⟨hb23, h⟩ := h
            refine j_iald o (g := 25) (fun _ => rfl) hb23 dX12_chart_79 ?_
            refine j_iadd o dX12_chart_80 ?_
            refine j_topi (fun y24 hy24 => ?_)
            replace h := h y24 hy24
            refine j_istore o [(5, .int y24), (0, .ref (P.1 1)), (1, .int a1), (3, .int a3), (4, .int x13), (6, .int x15), (7, .int x16)] dX12_chart_81 (by decide) rfl ?_
            refine j_iload o dX12_chart_83 rfl ?_
            refine j_aload_n o dX12_chart_85 rfl ?_
            refine j_getf o (g := 1) (slot := 39) (ci := 12) (v := .ref (P.1 25)) rfl jin_X12 (by decide) rfl jf_X12_83 (fun _ => rfl) rfl dX12_chart_86 ?_
            refine j_bipush o (v := 9) dX12_chart_89 rfl ?_
            refine j_iload o dX12_chart_91 rfl ?_
            refine j_imul o dX12_chart_93 ?_
            refine j_aload_n o dX12_chart_94 rfl ?_
            refine j_getf o (g := 1) (slot := 38) (ci := 12) (v := .ref (P.1 24)) rfl jin_X12 (by decide) rfl jf_X12_80 (fun _ => rfl) rfl dX12_chart_95 ?_
            refine j_iload o dX12_chart_98 rfl ?_
            obtain ⟨hb25, h⟩ := h
            refine j_iald o (g := 24) (fun _ => rfl) hb25 dX12_chart_100 ?_
            refine j_iadd o dX12_chart_101 ?_
            obtain ⟨hb26, h⟩ := h
            refine j_iald o (g := 25) (fun _ => rfl) hb26 dX12_chart_102 ?_
            refine j_mmax o dX12_chart_103 jc_X12_104 rfl ?_
            refine j_topi (fun y27 hy27 => ?_)
            replace h := h y27 hy27
            refine j_istore o [(6, .int y27), (5, .int y24), (0, .ref (P.1 1)), (1, .int a1), (3, .int a3), (4, .int x13), (7, .int x16)] dX12_chart_106 (by decide) rfl ?_
            refine j_iload o dX12_chart_108 rfl ?_
            refine j_iconst o (v := 1) dX12_chart_110 rfl ?_
            refine j_aload_n o dX12_chart_111 rfl ?_
            refine j_getf o (g := 1) (slot := 38) (ci := 12) (v := .ref (P.1 24)) rfl jin_X12 (by decide) rfl jf_X12_80 (fun _ => rfl) rfl dX12_chart_112 ?_
            refine j_iload o dX12_chart_115 rfl ?_
            obtain ⟨hb28, h⟩ := h
            refine j_iald o (g := 24) (fun _ => rfl) hb28 dX12_chart_117 ?_
            refine j_ishl o dX12_chart_118 ?_
            refine j_ior o dX12_chart_119 ?_
            refine j_topi (fun y29 hy29 => ?_)
            replace h := h y29 hy29
            refine j_istore o [(4, .int y29), (6, .int y27), (5, .int y24), (0, .ref (P.1 1)), (1, .int a1), (3, .int a3), (7, .int x16)] dX12_chart_120 (by decide) rfl ?_
            refine j_iinc o (v := x16 + 1) [(7, .int (x16 + 1)), (4, .int y29), (6, .int y27), (5, .int y24), (0, .ref (P.1 1)), (1, .int a1), (3, .int a3)] dX12_chart_122 rfl rfl (by decide) rfl ?_
            refine j_goto o (tgt := 44) dX12_chart_125 (by decide) ?_
            exact j_pick [4, 5, 6, 1, 3, 2, 0] rfl h)
        exact j_pick [4, 5, 7, 3, 2, 1, 0] rfl h
      · replace h := h.2 c12
        refine j_iconst o (v := (-1)) dX12_chart_30 rfl ?_
        rw [hE]
        exact j_iret o dX12_chart_31 ⟨_, rfl, rfl, rfl, h⟩

abbrev rm_X12_least : Room := { frames := 3, cells := 0, slots := 0, locals := 72 }
def w_X12_least (P : jP) (a1 : Int32) (a2 : Int32) (M : jM) (Q : Int32 → jM → Prop) : Prop :=
  w_X12_isLaw P a1 (upM M 1 0 0) (fun r1 =>
  (r1 = 0 → (
   Q (-1) (upM M 1 0 0)
  )) ∧ (¬ r1 = 0 → (
   w_X12_isIn P a2 0 1 (fun r5 =>
   (¬ r5 = 0 → (
    ∀ R31 : Int32 → jM → Prop, (∀ (x9 : Int32) (M10 : jM), (
     (x9 < 0 → (
      (¬ a2 = 0 → (
       ∀ R155 : Int32 → Int32 → Int32 → Prop, (∀ (x13 : Int32) (x14 : Int32) (x15 : Int32), (
        ((M10 1 1) ≤ x15 → (
         Q x13 M10
        )) ∧ (¬ (M10 1 1) ≤ x15 → (
         ∀ R167 : Int32 → Prop, (∀ (x17 : Int32), (
          w_X12_has P x14 x17 (fun r18 =>
          ∀ R213 : Prop, ((
           R167 (x17 + 1)
          ) → R213) →
          (¬ r18 = 0 → (
           R213
          )) ∧ (r18 = 0 → (
           vp_in ((9 * x14) + x17) (4608) ∧
           vp_in (x14 ||| ((1 : Int32) <<< (x17 &&& 31))) (512) ∧
           vp_in x14 (512) ∧
           (((M10 25 ((9 * x14) + x17).toNatClampNeg) + (M10 26 (x14 ||| ((1 : Int32) <<< (x17 &&& 31))).toNatClampNeg)) = (M10 26 x14.toNatClampNeg) → (
            R155 (((M10 1 1) * x13) + x17) (x14 ||| ((1 : Int32) <<< (x17 &&& 31))) (x15 + 1)
           )) ∧ (¬ ((M10 25 ((9 * x14) + x17).toNatClampNeg) + (M10 26 (x14 ||| ((1 : Int32) <<< (x17 &&& 31))).toNatClampNeg)) = (M10 26 x14.toNatClampNeg) → (
            R213
           ))
          )))
         ) → R167 x17) →
         R167 0
        ))
       ) → R155 x13 x14 x15) →
       R155 0 0 0
      )) ∧ (a2 = 0 → (
       vp_in 0 (512) ∧
       Q (M10 26 (0 : Int32).toNatClampNeg) M10
      ))
     )) ∧ (¬ x9 < 0 → (
      w_X12_layBoxes P a1 x9 M10 (fun M27 =>
      ∀ R63 : Int32 → Prop, (∀ (x29 : Int32), (
       vp_in x9 (512) ∧
       ∀ R67 : Int32 → jM → Prop, (∀ (x31 : Int32) (M32 : jM), (
        ((M32 1 1) ≤ x31 → (
         R31 (x9 + (-1)) M32
        )) ∧ (¬ (M32 1 1) ≤ x31 → (
         w_X12_has P x9 x31 (fun r34 =>
         ∀ R124 : jM → Prop, (∀ (M37 : jM), (
          R67 (x31 + 1) M37
         ) → R124 M37) →
         (¬ r34 = 0 → (
          R124 M32
         )) ∧ (r34 = 0 → (
          vp_in x9 (512) ∧
          vp_in ((9 * x9) + x31) (4608) ∧
          vp_in (x9 ||| ((1 : Int32) <<< (x31 &&& 31))) (512) ∧
          vp_in x9 (512) ∧
          ∀ M43 : jM, M43 = upM M32 26 x9.toNatClampNeg (if ((M32 25 ((9 * x9) + x31).toNatClampNeg) + (M32 26 (x9 ||| ((1 : Int32) <<< (x31 &&& 31))).toNatClampNeg)) < (M32 26 x9.toNatClampNeg) then ((M32 25 ((9 * x9) + x31).toNatClampNeg) + (M32 26 (x9 ||| ((1 : Int32) <<< (x31 &&& 31))).toNatClampNeg)) else (M32 26 x9.toNatClampNeg)) →
          R124 M43
         )))
        ))
       ) → R67 x31 M32) →
       R67 0 (upM M27 26 x9.toNatClampNeg x29)
      ) → R63 x29) →
      (¬ x9 = ((M27 1 2) - 1) → (
       R63 1000000
      )) ∧ (x9 = ((M27 1 2) - 1) → (
       R63 0
      )))
     ))
    ) → R31 x9 M10) →
    R31 (((upM M 1 0 0) 1 2) - 1) (upM M 1 0 0)
   )) ∧ (r5 = 0 → (
    Q (-1) (upM M 1 0 0)
   )))
  )))
set_option maxRecDepth 20000 in
theorem c_X12_least (l : Launch) (P : jP) (a1 : Int32) (a2 : Int32) (M : jM) (N : jN) (Q : Int32 → jM → Prop) (h : w_X12_least P a1 a2 M Q) : jC l yX12_least cX12_least 7 (some .int) rm_X12_least LM [.ref (P.1 1), .int a1, .int a2] P M N (jqi P (fun r M' N' => N = N' ∧ Q r M' )) := by
  refine jC_of (by decide +kernel) [(0, .ref (P.1 1)), (1, .int a1), (2, .int a2)] (Nat.le_of_ble_eq_true rfl) rfl (fun X o => ?_)
  obtain ⟨E, hE⟩ : ∃ E, E = jE X rm_X12_least (jqi P (fun r M' N' => N = N' ∧ Q r M' )) := ⟨_, rfl⟩
  rw [← hE]
  unfold w_X12_least at h
  refine j_aload_n o dX12_least_0 rfl ?_
  refine j_iconst o (v := 0) dX12_least_1 rfl ?_
  refine j_putf o (M1 := upM M 1 0 0) (N1 := N) (g := 1) (slot := 0) (ci := 12) (ty := .int) rfl jin_X12 tyX12_ok nmX12 (by decide) rfl rfl jf_X12_114 (by decide +kernel) rfl rfl (Nat.le_of_ble_eq_true rfl) (fun _ => rfl) (fun _ => rfl) (fun _ hj => upM_ne _ _ _ hj) (fun _ _ => rfl) dX12_least_2 ?_
  refine j_aload_n o dX12_least_5 rfl ?_
  refine j_iload_n o dX12_least_6 rfl ?_
  refine j_callVi (g := 1) (ci := 12) o (c_X12_isLaw l P a1 (upM M 1 0 0) N _ h) dX12_least_7 jc_X12_233 jn_X12_isLaw rfl rfl rfl (fun _ => rfl) rfl rfl (fun r1 Mz2 Nz3 h => ?_)
  obtain ⟨rfl, rfl, h⟩ := h
  refine j_if_eq o (tgt := 22) dX12_least_10 (by decide) (fun c4 => ?_) (fun c4 => ?_)
  · replace h := h.1 c4
    refine j_iconst o (v := (-1)) dX12_least_22 rfl ?_
    rw [hE]
    exact j_iret o dX12_least_23 ⟨_, rfl, rfl, rfl, h⟩
  · replace h := h.2 c4
    refine j_iload_n o dX12_least_13 rfl ?_
    refine j_iconst o (v := 0) dX12_least_14 rfl ?_
    refine j_iconst o (v := 1) dX12_least_15 rfl ?_
    refine j_callSi o (c_X12_isIn l P a2 0 1 (upM M 1 0 0) N _ h) dX12_least_16 jc_X12_209 jn_X12_isIn rfl rfl rfl rfl (fun r5 Mz6 Nz7 h => ?_)
    obtain ⟨rfl, rfl, h⟩ := h
    refine j_if_ne o (tgt := 24) dX12_least_19 (by decide) (fun c8 => ?_) (fun c8 => ?_)
    · replace h := h.1 c8
      refine j_aload_n o dX12_least_24 rfl ?_
      refine j_getf o (g := 1) (slot := 2) (ci := 12) (v := .int ((upM M 1 0 0) 1 2)) rfl jin_X12 (by decide) rfl jf_X12_111 (fun _ => rfl) rfl dX12_least_25 ?_
      refine j_iconst o (v := 1) dX12_least_28 rfl ?_
      refine j_isub o dX12_least_29 ?_
      refine j_istore_n o [(3, .int (((upM M 1 0 0) 1 2) - 1)), (0, .ref (P.1 1)), (1, .int a1), (2, .int a2)] dX12_least_30 (by decide) rfl ?_
      replace h := h (fun (x9 : Int32) (M10 : jM) => J X P M10 N 0 0 E 7 31 [(0, .ref (P.1 1)), (1, .int a1), (2, .int a2), (3, .int x9)] []) (by
        intro x9 M10 h
        refine j_iload_n o dX12_least_31 rfl ?_
        refine j_if_lt o (tgt := 136) dX12_least_32 (by decide) (fun c11 => ?_) (fun c11 => ?_)
        · replace h := h.1 c11
          refine j_iload_n o dX12_least_136 rfl ?_
          refine j_if_ne o (tgt := 147) dX12_least_137 (by decide) (fun c12 => ?_) (fun c12 => ?_)
          · replace h := h.1 c12
            refine j_iconst o (v := 0) dX12_least_147 rfl ?_
            refine j_istore_n o [(3, .int 0), (0, .ref (P.1 1)), (1, .int a1), (2, .int a2)] dX12_least_148 (by decide) rfl ?_
            refine j_iconst o (v := 0) dX12_least_149 rfl ?_
            refine j_istore o [(4, .int 0), (3, .int 0), (0, .ref (P.1 1)), (1, .int a1), (2, .int a2)] dX12_least_150 (by decide) rfl ?_
            refine j_iconst o (v := 0) dX12_least_152 rfl ?_
            refine j_istore o [(5, .int 0), (4, .int 0), (3, .int 0), (0, .ref (P.1 1)), (1, .int a1), (2, .int a2)] dX12_least_153 (by decide) rfl ?_
            replace h := h (fun (x13 : Int32) (x14 : Int32) (x15 : Int32) => J X P M10 N 0 0 E 7 155 [(0, .ref (P.1 1)), (3, .int x13), (4, .int x14), (5, .int x15)] []) (by
              intro x13 x14 x15 h
              refine j_iload o dX12_least_155 rfl ?_
              refine j_aload_n o dX12_least_157 rfl ?_
              refine j_getf o (g := 1) (slot := 1) (ci := 12) (v := .int (M10 1 1)) rfl jin_X12 (by decide) rfl jf_X12_107 (fun _ => rfl) rfl dX12_least_158 ?_
              refine j_icmp_ge o (tgt := 244) dX12_least_161 (by decide) (fun c16 => ?_) (fun c16 => ?_)
              · replace h := h.1 c16
                refine j_iload_n o dX12_least_244 rfl ?_
                rw [hE]
                exact j_iret o dX12_least_245 ⟨_, rfl, rfl, rfl, h⟩
              · replace h := h.2 c16
                refine j_iconst o (v := 0) dX12_least_164 rfl ?_
                refine j_istore o [(6, .int 0), (0, .ref (P.1 1)), (3, .int x13), (4, .int x14), (5, .int x15)] dX12_least_165 (by decide) rfl ?_
                replace h := h (fun (x17 : Int32) => J X P M10 N 0 0 E 7 167 [(0, .ref (P.1 1)), (3, .int x13), (4, .int x14), (5, .int x15), (6, .int x17)] []) (by
                  intro x17 h
                  refine j_iload o dX12_least_167 rfl ?_
                  refine j_iload o dX12_least_169 rfl ?_
                  refine j_callSi o (c_X12_has l P x14 x17 M10 N _ h) dX12_least_171 jc_X12_157 jn_X12_has rfl rfl rfl rfl (fun r18 Mz19 Nz20 h => ?_)
                  obtain ⟨rfl, rfl, h⟩ := h
                  replace h := h (J X P M10 N 0 0 E 7 213 [(0, .ref (P.1 1)), (3, .int x13), (4, .int x14), (5, .int x15), (6, .int x17)] []) (by
                    intro h
                    refine j_iinc o (v := x17 + 1) [(6, .int (x17 + 1)), (0, .ref (P.1 1)), (3, .int x13), (4, .int x14), (5, .int x15)] dX12_least_213 rfl rfl (by decide) rfl ?_
                    refine j_goto o (tgt := 167) dX12_least_216 (by decide) ?_
                    exact j_pick [1, 2, 3, 4, 0] rfl h)
                  refine j_if_ne o (tgt := 213) dX12_least_174 (by decide) (fun c21 => ?_) (fun c21 => ?_)
                  · replace h := h.1 c21
                    exact j_pick [0, 1, 2, 3, 4] rfl h
                  · replace h := h.2 c21
                    refine j_aload_n o dX12_least_177 rfl ?_
                    refine j_getf o (g := 1) (slot := 39) (ci := 12) (v := .ref (P.1 25)) rfl jin_X12 (by decide) rfl jf_X12_83 (fun _ => rfl) rfl dX12_least_178 ?_
                    refine j_bipush o (v := 9) dX12_least_181 rfl ?_
                    refine j_iload o dX12_least_183 rfl ?_
                    refine j_imul o dX12_least_185 ?_
                    refine j_iload o dX12_least_186 rfl ?_
                    refine j_iadd o dX12_least_188 ?_
                    obtain ⟨hb22, h⟩ := h
                    refine j_iald o (g := 25) (fun _ => rfl) hb22 dX12_least_189 ?_
                    refine j_aload_n o dX12_least_190 rfl ?_
                    refine j_getf o (g := 1) (slot := 40) (ci := 12) (v := .ref (P.1 26)) rfl jin_X12 (by decide) rfl jf_X12_86 (fun _ => rfl) rfl dX12_least_191 ?_
                    refine j_iload o dX12_least_194 rfl ?_
                    refine j_iconst o (v := 1) dX12_least_196 rfl ?_
                    refine j_iload o dX12_least_197 rfl ?_
                    refine j_ishl o dX12_least_199 ?_
                    refine j_ior o dX12_least_200 ?_
                    obtain ⟨hb23, h⟩ := h
                    refine j_iald o (g := 26) (fun _ => rfl) hb23 dX12_least_201 ?_
                    refine j_iadd o dX12_least_202 ?_
                    refine j_aload_n o dX12_least_203 rfl ?_
                    refine j_getf o (g := 1) (slot := 40) (ci := 12) (v := .ref (P.1 26)) rfl jin_X12 (by decide) rfl jf_X12_86 (fun _ => rfl) rfl dX12_least_204 ?_
                    refine j_iload o dX12_least_207 rfl ?_
                    obtain ⟨hb24, h⟩ := h
                    refine j_iald o (g := 26) (fun _ => rfl) hb24 dX12_least_209 ?_
                    refine j_icmp_eq o (tgt := 219) dX12_least_210 (by decide) (fun c25 => ?_) (fun c25 => ?_)
                    · replace h := h.1 c25
                      refine j_aload_n o dX12_least_219 rfl ?_
                      refine j_getf o (g := 1) (slot := 1) (ci := 12) (v := .int (M10 1 1)) rfl jin_X12 (by decide) rfl jf_X12_107 (fun _ => rfl) rfl dX12_least_220 ?_
                      refine j_iload_n o dX12_least_223 rfl ?_
                      refine j_imul o dX12_least_224 ?_
                      refine j_iload o dX12_least_225 rfl ?_
                      refine j_iadd o dX12_least_227 ?_
                      refine j_istore_n o [(3, .int (((M10 1 1) * x13) + x17)), (0, .ref (P.1 1)), (4, .int x14), (5, .int x15), (6, .int x17)] dX12_least_228 (by decide) rfl ?_
                      refine j_iload o dX12_least_229 rfl ?_
                      refine j_iconst o (v := 1) dX12_least_231 rfl ?_
                      refine j_iload o dX12_least_232 rfl ?_
                      refine j_ishl o dX12_least_234 ?_
                      refine j_ior o dX12_least_235 ?_
                      refine j_istore o [(4, .int (x14 ||| ((1 : Int32) <<< (x17 &&& 31)))), (3, .int (((M10 1 1) * x13) + x17)), (0, .ref (P.1 1)), (5, .int x15), (6, .int x17)] dX12_least_236 (by decide) rfl ?_
                      refine j_iinc o (v := x15 + 1) [(5, .int (x15 + 1)), (4, .int (x14 ||| ((1 : Int32) <<< (x17 &&& 31)))), (3, .int (((M10 1 1) * x13) + x17)), (0, .ref (P.1 1)), (6, .int x17)] dX12_least_238 rfl rfl (by decide) rfl ?_
                      refine j_goto o (tgt := 155) dX12_least_241 (by decide) ?_
                      exact j_pick [3, 2, 1, 0] rfl h
                    · replace h := h.2 c25
                      exact j_pick [0, 1, 2, 3, 4] rfl h)
                exact j_pick [1, 2, 3, 4, 0] rfl h)
            exact j_pick [3, 2, 1, 0] rfl h
          · replace h := h.2 c12
            refine j_aload_n o dX12_least_140 rfl ?_
            refine j_getf o (g := 1) (slot := 40) (ci := 12) (v := .ref (P.1 26)) rfl jin_X12 (by decide) rfl jf_X12_86 (fun _ => rfl) rfl dX12_least_141 ?_
            refine j_iconst o (v := 0) dX12_least_144 rfl ?_
            obtain ⟨hb26, h⟩ := h
            refine j_iald o (g := 26) (fun _ => rfl) hb26 dX12_least_145 ?_
            rw [hE]
            exact j_iret o dX12_least_146 ⟨_, rfl, rfl, rfl, h⟩
        · replace h := h.2 c11
          refine j_aload_n o dX12_least_35 rfl ?_
          refine j_iload_n o dX12_least_36 rfl ?_
          refine j_iload_n o dX12_least_37 rfl ?_
          refine j_callVv (g := 1) (ci := 12) o (c_X12_layBoxes l P a1 x9 M10 N _ h) dX12_least_38 jc_X12_365 jn_X12_layBoxes rfl rfl rfl (fun _ => rfl) rfl rfl (fun M27 Nz28 h => ?_)
          obtain ⟨rfl, h⟩ := h
          refine j_aload_n o dX12_least_41 rfl ?_
          refine j_getf o (g := 1) (slot := 40) (ci := 12) (v := .ref (P.1 26)) rfl jin_X12 (by decide) rfl jf_X12_86 (fun _ => rfl) rfl dX12_least_42 ?_
          refine j_iload_n o dX12_least_45 rfl ?_
          refine j_iload_n o dX12_least_46 rfl ?_
          refine j_aload_n o dX12_least_47 rfl ?_
          refine j_getf o (g := 1) (slot := 2) (ci := 12) (v := .int (M27 1 2)) rfl jin_X12 (by decide) rfl jf_X12_111 (fun _ => rfl) rfl dX12_least_48 ?_
          refine j_iconst o (v := 1) dX12_least_51 rfl ?_
          refine j_isub o dX12_least_52 ?_
          replace h := h (fun (x29 : Int32) => J X P M27 N 0 0 E 7 63 [(0, .ref (P.1 1)), (1, .int a1), (2, .int a2), (3, .int x9)] [.int x29, .int x9, .ref (P.1 26)]) (by
            intro x29 h
            obtain ⟨hb30, h⟩ := h
            refine j_iast o (g := 26) (fun _ _ _ => rfl) hb30 dX12_least_63 ?_
            refine j_iconst o (v := 0) dX12_least_64 rfl ?_
            refine j_istore o [(4, .int 0), (0, .ref (P.1 1)), (1, .int a1), (2, .int a2), (3, .int x9)] dX12_least_65 (by decide) rfl ?_
            replace h := h (fun (x31 : Int32) (M32 : jM) => J X P M32 N 0 0 E 7 67 [(0, .ref (P.1 1)), (1, .int a1), (2, .int a2), (3, .int x9), (4, .int x31)] []) (by
              intro x31 M32 h
              refine j_iload o dX12_least_67 rfl ?_
              refine j_aload_n o dX12_least_69 rfl ?_
              refine j_getf o (g := 1) (slot := 1) (ci := 12) (v := .int (M32 1 1)) rfl jin_X12 (by decide) rfl jf_X12_107 (fun _ => rfl) rfl dX12_least_70 ?_
              refine j_icmp_ge o (tgt := 130) dX12_least_73 (by decide) (fun c33 => ?_) (fun c33 => ?_)
              · replace h := h.1 c33
                refine j_iinc o (v := x9 + (-1)) [(3, .int (x9 + (-1))), (0, .ref (P.1 1)), (1, .int a1), (2, .int a2), (4, .int x31)] dX12_least_130 rfl rfl (by decide) rfl ?_
                refine j_goto o (tgt := 31) dX12_least_133 (by decide) ?_
                exact j_pick [1, 2, 3, 0] rfl h
              · replace h := h.2 c33
                refine j_iload_n o dX12_least_76 rfl ?_
                refine j_iload o dX12_least_77 rfl ?_
                refine j_callSi o (c_X12_has l P x9 x31 M32 N _ h) dX12_least_79 jc_X12_157 jn_X12_has rfl rfl rfl rfl (fun r34 Mz35 Nz36 h => ?_)
                obtain ⟨rfl, rfl, h⟩ := h
                replace h := h (fun (M37 : jM) => J X P M37 N 0 0 E 7 124 [(0, .ref (P.1 1)), (1, .int a1), (2, .int a2), (3, .int x9), (4, .int x31)] []) (by
                  intro M37 h
                  refine j_iinc o (v := x31 + 1) [(4, .int (x31 + 1)), (0, .ref (P.1 1)), (1, .int a1), (2, .int a2), (3, .int x9)] dX12_least_124 rfl rfl (by decide) rfl ?_
                  refine j_goto o (tgt := 67) dX12_least_127 (by decide) ?_
                  exact j_pick [1, 2, 3, 4, 0] rfl h)
                refine j_if_ne o (tgt := 124) dX12_least_82 (by decide) (fun c38 => ?_) (fun c38 => ?_)
                · replace h := h.1 c38
                  exact j_pick [0, 1, 2, 3, 4] rfl h
                · replace h := h.2 c38
                  refine j_aload_n o dX12_least_85 rfl ?_
                  refine j_getf o (g := 1) (slot := 40) (ci := 12) (v := .ref (P.1 26)) rfl jin_X12 (by decide) rfl jf_X12_86 (fun _ => rfl) rfl dX12_least_86 ?_
                  refine j_iload_n o dX12_least_89 rfl ?_
                  refine j_aload_n o dX12_least_90 rfl ?_
                  refine j_getf o (g := 1) (slot := 40) (ci := 12) (v := .ref (P.1 26)) rfl jin_X12 (by decide) rfl jf_X12_86 (fun _ => rfl) rfl dX12_least_91 ?_
                  refine j_iload_n o dX12_least_94 rfl ?_
                  obtain ⟨hb39, h⟩ := h
                  refine j_iald o (g := 26) (fun _ => rfl) hb39 dX12_least_95 ?_
                  refine j_aload_n o dX12_least_96 rfl ?_
                  refine j_getf o (g := 1) (slot := 39) (ci := 12) (v := .ref (P.1 25)) rfl jin_X12 (by decide) rfl jf_X12_83 (fun _ => rfl) rfl dX12_least_97 ?_
                  refine j_bipush o (v := 9) dX12_least_100 rfl ?_
                  refine j_iload_n o dX12_least_102 rfl ?_
                  refine j_imul o dX12_least_103 ?_
                  refine j_iload o dX12_least_104 rfl ?_
                  refine j_iadd o dX12_least_106 ?_
                  obtain ⟨hb40, h⟩ := h
                  refine j_iald o (g := 25) (fun _ => rfl) hb40 dX12_least_107 ?_
                  refine j_aload_n o dX12_least_108 rfl ?_
                  refine j_getf o (g := 1) (slot := 40) (ci := 12) (v := .ref (P.1 26)) rfl jin_X12 (by decide) rfl jf_X12_86 (fun _ => rfl) rfl dX12_least_109 ?_
                  refine j_iload_n o dX12_least_112 rfl ?_
                  refine j_iconst o (v := 1) dX12_least_113 rfl ?_
                  refine j_iload o dX12_least_114 rfl ?_
                  refine j_ishl o dX12_least_116 ?_
                  refine j_ior o dX12_least_117 ?_
                  obtain ⟨hb41, h⟩ := h
                  refine j_iald o (g := 26) (fun _ => rfl) hb41 dX12_least_118 ?_
                  refine j_iadd o dX12_least_119 ?_
                  refine j_mmin o dX12_least_120 jc_X12_98 rfl ?_
                  obtain ⟨hb42, h⟩ := h
                  refine j_iast o (g := 26) (fun _ _ _ => rfl) hb42 dX12_least_123 ?_
                  refine j_nameM (fun M43 hM43 => ?_)
                  replace h := h M43 hM43
                  exact j_pick [0, 1, 2, 3, 4] rfl h)
            exact j_pick [1, 2, 3, 4, 0] rfl h)
          refine j_icmp_ne o (tgt := 60) dX12_least_53 (by decide) (fun c44 => ?_) (fun c44 => ?_)
          · replace h := h.1 c44
            refine j_ldc_w o jk_X12_296 dX12_least_60 ?_
            exact j_pick [0, 1, 2, 3] rfl h
          · replace h := h.2 c44
            refine j_iconst o (v := 0) dX12_least_56 rfl ?_
            refine j_goto o (tgt := 63) dX12_least_57 (by decide) ?_
            exact j_pick [0, 1, 2, 3] rfl h)
      exact j_pick [1, 2, 3, 0] rfl h
    · replace h := h.2 c8
      refine j_iconst o (v := (-1)) dX12_least_22 rfl ?_
      rw [hE]
      exact j_iret o dX12_least_23 ⟨_, rfl, rfl, rfl, h⟩

abbrev rm_X12_isOutcome : Room := { frames := 1, cells := 0, slots := 0, locals := 22 }
def w_X12_isOutcome (P : jP) (a1 : Int32) (Q : Int32 → Prop) : Prop :=
  w_X12_isIn P a1 (-1) 5 (fun r1 =>
  jb r1 ∧
  Q r1)
set_option maxRecDepth 20000 in
theorem c_X12_isOutcome (l : Launch) (P : jP) (a1 : Int32) (M : jM) (N : jN) (Q : Int32 → Prop) (h : w_X12_isOutcome P a1 Q) : jC l yX12_isOutcome cX12_isOutcome 1 (some .boolean) rm_X12_isOutcome LM [.int a1] P M N (jqi P (fun r M' N' => M = M' ∧ N = N' ∧ Q r )) := by
  refine jC_of (by decide +kernel) [(0, .int a1)] (Nat.le_of_ble_eq_true rfl) rfl (fun X o => ?_)
  obtain ⟨E, hE⟩ : ∃ E, E = jE X rm_X12_isOutcome (jqi P (fun r M' N' => M = M' ∧ N = N' ∧ Q r )) := ⟨_, rfl⟩
  rw [← hE]
  unfold w_X12_isOutcome at h
  refine j_iload_n o dX12_isOutcome_0 rfl ?_
  refine j_iconst o (v := (-1)) dX12_isOutcome_1 rfl ?_
  refine j_iconst o (v := 5) dX12_isOutcome_2 rfl ?_
  refine j_callSi o (c_X12_isIn l P a1 (-1) 5 M N _ h) dX12_isOutcome_3 jc_X12_209 jn_X12_isIn rfl rfl rfl rfl (fun r1 Mz2 Nz3 h => ?_)
  obtain ⟨rfl, rfl, h⟩ := h
  obtain ⟨hz4, h⟩ := h
  rw [hE]
  exact j_zret o hz4.1 dX12_isOutcome_6 ⟨_, rfl, rfl, rfl, rfl, h⟩

abbrev rm_X12_ruling : Room := { frames := 2, cells := 0, slots := 0, locals := 42 }
def w_X12_ruling (P : jP) (a1 : Int32) (a2 : Int32) (M : jM) (Q : Int32 → jM → Prop) : Prop :=
  (((upM M 1 0 0) 1 44) = 20 → (
   Q (-1) (upM M 1 0 0)
  )) ∧ (¬ ((upM M 1 0 0) 1 44) = 20 → (
   w_X12_isCase P a1 (upM M 1 0 0) (fun r2 =>
   (r2 = 0 → (
    Q (-1) (upM M 1 0 0)
   )) ∧ (¬ r2 = 0 → (
    w_X12_isOutcome P a2 (fun r6 =>
    (¬ r6 = 0 → (
     vp_in ((upM M 1 0 0) 1 44) (20) ∧
     ∀ M11 : jM, M11 = upM (upM M 1 0 0) 28 ((upM M 1 0 0) 1 44).toNatClampNeg a1 →
     vp_in (M11 1 44) (20) ∧
     ∀ M13 : jM, M13 = upM (upM M11 29 (M11 1 44).toNatClampNeg a2) 1 44 (((upM M11 29 (M11 1 44).toNatClampNeg a2) 1 44) + 1) →
     Q (M13 1 44) M13
    )) ∧ (r6 = 0 → (
     Q (-1) (upM M 1 0 0)
    )))
   )))
  ))
set_option maxRecDepth 20000 in
theorem c_X12_ruling (l : Launch) (P : jP) (a1 : Int32) (a2 : Int32) (M : jM) (N : jN) (Q : Int32 → jM → Prop) (h : w_X12_ruling P a1 a2 M Q) : jC l yX12_ruling cX12_ruling 3 (some .int) rm_X12_ruling LM [.ref (P.1 1), .int a1, .int a2] P M N (jqi P (fun r M' N' => N = N' ∧ Q r M' )) := by
  refine jC_of (by decide +kernel) [(0, .ref (P.1 1)), (1, .int a1), (2, .int a2)] (Nat.le_of_ble_eq_true rfl) rfl (fun X o => ?_)
  obtain ⟨E, hE⟩ : ∃ E, E = jE X rm_X12_ruling (jqi P (fun r M' N' => N = N' ∧ Q r M' )) := ⟨_, rfl⟩
  rw [← hE]
  unfold w_X12_ruling at h
  refine j_aload_n o dX12_ruling_0 rfl ?_
  refine j_iconst o (v := 0) dX12_ruling_1 rfl ?_
  refine j_putf o (M1 := upM M 1 0 0) (N1 := N) (g := 1) (slot := 0) (ci := 12) (ty := .int) rfl jin_X12 tyX12_ok nmX12 (by decide) rfl rfl jf_X12_114 (by decide +kernel) rfl rfl (Nat.le_of_ble_eq_true rfl) (fun _ => rfl) (fun _ => rfl) (fun _ hj => upM_ne _ _ _ hj) (fun _ _ => rfl) dX12_ruling_2 ?_
  refine j_aload_n o dX12_ruling_5 rfl ?_
  refine j_getf o (g := 1) (slot := 44) (ci := 12) (v := .int ((upM M 1 0 0) 1 44)) rfl jin_X12 (by decide) rfl jf_X12_369 (fun _ => rfl) rfl dX12_ruling_6 ?_
  refine j_bipush o (v := 20) dX12_ruling_9 rfl ?_
  refine j_icmp_eq o (tgt := 29) dX12_ruling_11 (by decide) (fun c1 => ?_) (fun c1 => ?_)
  · replace h := h.1 c1
    refine j_iconst o (v := (-1)) dX12_ruling_29 rfl ?_
    rw [hE]
    exact j_iret o dX12_ruling_30 ⟨_, rfl, rfl, rfl, h⟩
  · replace h := h.2 c1
    refine j_aload_n o dX12_ruling_14 rfl ?_
    refine j_iload_n o dX12_ruling_15 rfl ?_
    refine j_callVi (g := 1) (ci := 12) o (c_X12_isCase l P a1 (upM M 1 0 0) N _ h) dX12_ruling_16 jc_X12_236 jn_X12_isCase rfl rfl rfl (fun _ => rfl) rfl rfl (fun r2 Mz3 Nz4 h => ?_)
    obtain ⟨rfl, rfl, h⟩ := h
    refine j_if_eq o (tgt := 29) dX12_ruling_19 (by decide) (fun c5 => ?_) (fun c5 => ?_)
    · replace h := h.1 c5
      refine j_iconst o (v := (-1)) dX12_ruling_29 rfl ?_
      rw [hE]
      exact j_iret o dX12_ruling_30 ⟨_, rfl, rfl, rfl, h⟩
    · replace h := h.2 c5
      refine j_iload_n o dX12_ruling_22 rfl ?_
      refine j_callSi o (c_X12_isOutcome l P a2 (upM M 1 0 0) N _ h) dX12_ruling_23 jc_X12_372 jn_X12_isOutcome rfl rfl rfl rfl (fun r6 Mz7 Nz8 h => ?_)
      obtain ⟨rfl, rfl, h⟩ := h
      refine j_if_ne o (tgt := 31) dX12_ruling_26 (by decide) (fun c9 => ?_) (fun c9 => ?_)
      · replace h := h.1 c9
        refine j_aload_n o dX12_ruling_31 rfl ?_
        refine j_getf o (g := 1) (slot := 42) (ci := 12) (v := .ref (P.1 28)) rfl jin_X12 (by decide) rfl jf_X12_92 (fun _ => rfl) rfl dX12_ruling_32 ?_
        refine j_aload_n o dX12_ruling_35 rfl ?_
        refine j_getf o (g := 1) (slot := 44) (ci := 12) (v := .int ((upM M 1 0 0) 1 44)) rfl jin_X12 (by decide) rfl jf_X12_369 (fun _ => rfl) rfl dX12_ruling_36 ?_
        refine j_iload_n o dX12_ruling_39 rfl ?_
        obtain ⟨hb10, h⟩ := h
        refine j_iast o (g := 28) (fun _ _ _ => rfl) hb10 dX12_ruling_40 ?_
        refine j_nameM (fun M11 hM11 => ?_)
        replace h := h M11 hM11
        refine j_aload_n o dX12_ruling_41 rfl ?_
        refine j_getf o (g := 1) (slot := 43) (ci := 12) (v := .ref (P.1 29)) rfl jin_X12 (by decide) rfl jf_X12_95 (fun _ => rfl) rfl dX12_ruling_42 ?_
        refine j_aload_n o dX12_ruling_45 rfl ?_
        refine j_getf o (g := 1) (slot := 44) (ci := 12) (v := .int (M11 1 44)) rfl jin_X12 (by decide) rfl jf_X12_369 (fun _ => rfl) rfl dX12_ruling_46 ?_
        refine j_iload_n o dX12_ruling_49 rfl ?_
        obtain ⟨hb12, h⟩ := h
        refine j_iast o (g := 29) (fun _ _ _ => rfl) hb12 dX12_ruling_50 ?_
        refine j_aload_n o dX12_ruling_51 rfl ?_
        refine j_dup o dX12_ruling_52 rfl ?_
        refine j_getf o (g := 1) (slot := 44) (ci := 12) (v := .int ((upM M11 29 (M11 1 44).toNatClampNeg a2) 1 44)) rfl jin_X12 (by decide) rfl jf_X12_369 (fun _ => rfl) rfl dX12_ruling_53 ?_
        refine j_iconst o (v := 1) dX12_ruling_56 rfl ?_
        refine j_iadd o dX12_ruling_57 ?_
        refine j_putf o (M1 := upM (upM M11 29 (M11 1 44).toNatClampNeg a2) 1 44 (((upM M11 29 (M11 1 44).toNatClampNeg a2) 1 44) + 1)) (N1 := N) (g := 1) (slot := 44) (ci := 12) (ty := .int) rfl jin_X12 tyX12_ok nmX12 (by decide) rfl rfl jf_X12_369 (by decide +kernel) rfl rfl (Nat.le_of_ble_eq_true rfl) (fun _ => rfl) (fun _ => rfl) (fun _ hj => upM_ne _ _ _ hj) (fun _ _ => rfl) dX12_ruling_58 ?_
        refine j_nameM (fun M13 hM13 => ?_)
        replace h := h M13 hM13
        refine j_aload_n o dX12_ruling_61 rfl ?_
        refine j_getf o (g := 1) (slot := 44) (ci := 12) (v := .int (M13 1 44)) rfl jin_X12 (by decide) rfl jf_X12_369 (fun _ => rfl) rfl dX12_ruling_62 ?_
        rw [hE]
        exact j_iret o dX12_ruling_65 ⟨_, rfl, rfl, rfl, h⟩
      · replace h := h.2 c9
        refine j_iconst o (v := (-1)) dX12_ruling_29 rfl ?_
        rw [hE]
        exact j_iret o dX12_ruling_30 ⟨_, rfl, rfl, rfl, h⟩

abbrev rm_X12_saidWithout : Room := { frames := 1, cells := 0, slots := 0, locals := 21 }
def w_X12_saidWithout (P : jP) (a1 : Int32) (a2 : Int32) (a3 : Int32) (M : jM) (Q : Int32 → Prop) : Prop :=
  vp_in ((512 * a1) + a3) (3072) ∧
  ∀ y2 : Int32, y2 = (M 9 ((512 * a1) + a3).toNatClampNeg) &&& (a2 ^^^ (-1)) →
  (¬ y2 = 0 → (
   w_J6_numberOfTrailingZeros_0f7a4 P y2 (fun r4 =>
   vp_in ((12 * a1) + r4) (72) ∧
   Q (M 11 ((12 * a1) + r4).toNatClampNeg))
  )) ∧ (y2 = 0 → (
   Q (-1)
  ))
set_option maxRecDepth 20000 in
theorem c_X12_saidWithout (l : Launch) (P : jP) (a1 : Int32) (a2 : Int32) (a3 : Int32) (M : jM) (N : jN) (Q : Int32 → Prop) (h : w_X12_saidWithout P a1 a2 a3 M Q) : jC l yX12_saidWithout cX12_saidWithout 5 (some .int) rm_X12_saidWithout LM [.ref (P.1 1), .int a1, .int a2, .int a3] P M N (jqi P (fun r M' N' => M = M' ∧ N = N' ∧ Q r )) := by
  refine jC_of (by decide +kernel) [(0, .ref (P.1 1)), (1, .int a1), (2, .int a2), (3, .int a3)] (Nat.le_of_ble_eq_true rfl) rfl (fun X o => ?_)
  obtain ⟨E, hE⟩ : ∃ E, E = jE X rm_X12_saidWithout (jqi P (fun r M' N' => M = M' ∧ N = N' ∧ Q r )) := ⟨_, rfl⟩
  rw [← hE]
  unfold w_X12_saidWithout at h
  refine j_aload_n o dX12_saidWithout_0 rfl ?_
  refine j_getf o (g := 1) (slot := 18) (ci := 12) (v := .ref (P.1 9)) rfl jin_X12 (by decide) rfl jf_X12_32 (fun _ => rfl) rfl dX12_saidWithout_1 ?_
  refine j_sipush o (v := 512) dX12_saidWithout_4 rfl ?_
  refine j_iload_n o dX12_saidWithout_7 rfl ?_
  refine j_imul o dX12_saidWithout_8 ?_
  refine j_iload_n o dX12_saidWithout_9 rfl ?_
  refine j_iadd o dX12_saidWithout_10 ?_
  obtain ⟨hb1, h⟩ := h
  refine j_iald o (g := 9) (fun _ => rfl) hb1 dX12_saidWithout_11 ?_
  refine j_iload_n o dX12_saidWithout_12 rfl ?_
  refine j_iconst o (v := (-1)) dX12_saidWithout_13 rfl ?_
  refine j_ixor o dX12_saidWithout_14 ?_
  refine j_iand o dX12_saidWithout_15 ?_
  refine j_topi (fun y2 hy2 => ?_)
  replace h := h y2 hy2
  refine j_istore o [(4, .int y2), (0, .ref (P.1 1)), (1, .int a1), (2, .int a2), (3, .int a3)] dX12_saidWithout_16 (by decide) rfl ?_
  refine j_iload o dX12_saidWithout_18 rfl ?_
  refine j_if_ne o (tgt := 27) dX12_saidWithout_20 (by decide) (fun c3 => ?_) (fun c3 => ?_)
  · replace h := h.1 c3
    refine j_aload_n o dX12_saidWithout_27 rfl ?_
    refine j_getf o (g := 1) (slot := 20) (ci := 12) (v := .ref (P.1 11)) rfl jin_X12 (by decide) rfl jf_X12_38 (fun _ => rfl) rfl dX12_saidWithout_28 ?_
    refine j_bipush o (v := 12) dX12_saidWithout_31 rfl ?_
    refine j_iload_n o dX12_saidWithout_33 rfl ?_
    refine j_imul o dX12_saidWithout_34 ?_
    refine j_iload o dX12_saidWithout_35 rfl ?_
    refine j_callSi o (c_J6_numberOfTrailingZeros_0f7a4 l P y2 M N _ h) dX12_saidWithout_37 jc_X12_230 jn_J6_numberOfTrailingZeros_0f7a4 rfl rfl rfl rfl (fun r4 Mz5 Nz6 h => ?_)
    obtain ⟨rfl, rfl, h⟩ := h
    refine j_iadd o dX12_saidWithout_40 ?_
    obtain ⟨hb7, h⟩ := h
    refine j_iald o (g := 11) (fun _ => rfl) hb7 dX12_saidWithout_41 ?_
    rw [hE]
    exact j_iret o dX12_saidWithout_42 ⟨_, rfl, rfl, rfl, rfl, h⟩
  · replace h := h.2 c3
    refine j_iconst o (v := (-1)) dX12_saidWithout_23 rfl ?_
    refine j_goto o (tgt := 42) dX12_saidWithout_24 (by decide) ?_
    rw [hE]
    exact j_iret o dX12_saidWithout_42 ⟨_, rfl, rfl, rfl, rfl, h⟩

abbrev rm_X12_againstWithout : Room := { frames := 2, cells := 0, slots := 0, locals := 45 }
def w_X12_againstWithout (P : jP) (a1 : Int32) (a2 : Int32) (M : jM) (Q : Int32 → Prop) : Prop :=
  ∀ R5 : Int32 → Int32 → Prop, (∀ (x1 : Int32) (x2 : Int32), (
   ((M 1 44) ≤ x2 → (
    Q x1
   )) ∧ (¬ (M 1 44) ≤ x2 → (
    vp_in x2 (20) ∧
    w_X12_saidWithout P a1 a2 (M 28 x2.toNatClampNeg) M (fun r5 =>
    vp_in x2 (20) ∧
    ∀ R46 : Int32 → Prop, (∀ (x9 : Int32), (
     R5 (x1 ||| x9) (x2 + 1)
    ) → R46 x9) →
    (r5 = (M 29 x2.toNatClampNeg) → (
     R46 0
    )) ∧ (¬ r5 = (M 29 x2.toNatClampNeg) → (
     R46 ((1 : Int32) <<< (x2 &&& 31))
    )))
   ))
  ) → R5 x1 x2) →
  R5 0 0
set_option maxRecDepth 20000 in
theorem c_X12_againstWithout (l : Launch) (P : jP) (a1 : Int32) (a2 : Int32) (M : jM) (N : jN) (Q : Int32 → Prop) (h : w_X12_againstWithout P a1 a2 M Q) : jC l yX12_againstWithout cX12_againstWithout 5 (some .int) rm_X12_againstWithout LM [.ref (P.1 1), .int a1, .int a2] P M N (jqi P (fun r M' N' => M = M' ∧ N = N' ∧ Q r )) := by
  refine jC_of (by decide +kernel) [(0, .ref (P.1 1)), (1, .int a1), (2, .int a2)] (Nat.le_of_ble_eq_true rfl) rfl (fun X o => ?_)
  obtain ⟨E, hE⟩ : ∃ E, E = jE X rm_X12_againstWithout (jqi P (fun r M' N' => M = M' ∧ N = N' ∧ Q r )) := ⟨_, rfl⟩
  rw [← hE]
  unfold w_X12_againstWithout at h
  refine j_iconst o (v := 0) dX12_againstWithout_0 rfl ?_
  refine j_istore_n o [(3, .int 0), (0, .ref (P.1 1)), (1, .int a1), (2, .int a2)] dX12_againstWithout_1 (by decide) rfl ?_
  refine j_iconst o (v := 0) dX12_againstWithout_2 rfl ?_
  refine j_istore o [(4, .int 0), (3, .int 0), (0, .ref (P.1 1)), (1, .int a1), (2, .int a2)] dX12_againstWithout_3 (by decide) rfl ?_
  replace h := h (fun (x1 : Int32) (x2 : Int32) => J X P M N 0 0 E 5 5 [(0, .ref (P.1 1)), (1, .int a1), (2, .int a2), (3, .int x1), (4, .int x2)] []) (by
    intro x1 x2 h
    refine j_iload o dX12_againstWithout_5 rfl ?_
    refine j_aload_n o dX12_againstWithout_7 rfl ?_
    refine j_getf o (g := 1) (slot := 44) (ci := 12) (v := .int (M 1 44)) rfl jin_X12 (by decide) rfl jf_X12_369 (fun _ => rfl) rfl dX12_againstWithout_8 ?_
    refine j_icmp_ge o (tgt := 54) dX12_againstWithout_11 (by decide) (fun c3 => ?_) (fun c3 => ?_)
    · replace h := h.1 c3
      refine j_iload_n o dX12_againstWithout_54 rfl ?_
      rw [hE]
      exact j_iret o dX12_againstWithout_55 ⟨_, rfl, rfl, rfl, rfl, h⟩
    · replace h := h.2 c3
      refine j_iload_n o dX12_againstWithout_14 rfl ?_
      refine j_aload_n o dX12_againstWithout_15 rfl ?_
      refine j_iload_n o dX12_againstWithout_16 rfl ?_
      refine j_iload_n o dX12_againstWithout_17 rfl ?_
      refine j_aload_n o dX12_againstWithout_18 rfl ?_
      refine j_getf o (g := 1) (slot := 42) (ci := 12) (v := .ref (P.1 28)) rfl jin_X12 (by decide) rfl jf_X12_92 (fun _ => rfl) rfl dX12_againstWithout_19 ?_
      refine j_iload o dX12_againstWithout_22 rfl ?_
      obtain ⟨hb4, h⟩ := h
      refine j_iald o (g := 28) (fun _ => rfl) hb4 dX12_againstWithout_24 ?_
      refine j_callVi (g := 1) (ci := 12) o (c_X12_saidWithout l P a1 a2 (M 28 x2.toNatClampNeg) M N _ h) dX12_againstWithout_25 jc_X12_375 jn_X12_saidWithout rfl rfl rfl (fun _ => rfl) rfl rfl (fun r5 Mz6 Nz7 h => ?_)
      obtain ⟨rfl, rfl, h⟩ := h
      refine j_aload_n o dX12_againstWithout_28 rfl ?_
      refine j_getf o (g := 1) (slot := 43) (ci := 12) (v := .ref (P.1 29)) rfl jin_X12 (by decide) rfl jf_X12_95 (fun _ => rfl) rfl dX12_againstWithout_29 ?_
      refine j_iload o dX12_againstWithout_32 rfl ?_
      obtain ⟨hb8, h⟩ := h
      refine j_iald o (g := 29) (fun _ => rfl) hb8 dX12_againstWithout_34 ?_
      replace h := h (fun (x9 : Int32) => J X P M N 0 0 E 5 46 [(0, .ref (P.1 1)), (1, .int a1), (2, .int a2), (4, .int x2)] [.int x9, .int x1]) (by
        intro x9 h
        refine j_ior o dX12_againstWithout_46 ?_
        refine j_istore_n o [(3, .int (x1 ||| x9)), (0, .ref (P.1 1)), (1, .int a1), (2, .int a2), (4, .int x2)] dX12_againstWithout_47 (by decide) rfl ?_
        refine j_iinc o (v := x2 + 1) [(4, .int (x2 + 1)), (3, .int (x1 ||| x9)), (0, .ref (P.1 1)), (1, .int a1), (2, .int a2)] dX12_againstWithout_48 rfl rfl (by decide) rfl ?_
        refine j_goto o (tgt := 5) dX12_againstWithout_51 (by decide) ?_
        exact j_pick [2, 3, 4, 1, 0] rfl h)
      refine j_icmp_eq o (tgt := 45) dX12_againstWithout_35 (by decide) (fun c10 => ?_) (fun c10 => ?_)
      · replace h := h.1 c10
        refine j_iconst o (v := 0) dX12_againstWithout_45 rfl ?_
        exact j_pick [0, 1, 2, 4] rfl h
      · replace h := h.2 c10
        refine j_iconst o (v := 1) dX12_againstWithout_38 rfl ?_
        refine j_iload o dX12_againstWithout_39 rfl ?_
        refine j_ishl o dX12_againstWithout_41 ?_
        refine j_goto o (tgt := 46) dX12_againstWithout_42 (by decide) ?_
        exact j_pick [0, 1, 2, 4] rfl h)
  exact j_pick [2, 3, 4, 1, 0] rfl h

abbrev rm_X12_against : Room := { frames := 3, cells := 0, slots := 0, locals := 69 }
def w_X12_against (P : jP) (a1 : Int32) (M : jM) (Q : Int32 → jM → Prop) : Prop :=
  w_X12_isLaw P a1 (upM M 1 0 0) (fun r1 =>
  (r1 = 0 → (
   Q (-1) (upM M 1 0 0)
  )) ∧ (¬ r1 = 0 → (
   w_X12_againstWithout P a1 0 (upM M 1 0 0) (fun r5 =>
   Q r5 (upM M 1 0 0))
  )))
set_option maxRecDepth 20000 in
theorem c_X12_against (l : Launch) (P : jP) (a1 : Int32) (M : jM) (N : jN) (Q : Int32 → jM → Prop) (h : w_X12_against P a1 M Q) : jC l yX12_against cX12_against 2 (some .int) rm_X12_against LM [.ref (P.1 1), .int a1] P M N (jqi P (fun r M' N' => N = N' ∧ Q r M' )) := by
  refine jC_of (by decide +kernel) [(0, .ref (P.1 1)), (1, .int a1)] (Nat.le_of_ble_eq_true rfl) rfl (fun X o => ?_)
  obtain ⟨E, hE⟩ : ∃ E, E = jE X rm_X12_against (jqi P (fun r M' N' => N = N' ∧ Q r M' )) := ⟨_, rfl⟩
  rw [← hE]
  unfold w_X12_against at h
  refine j_aload_n o dX12_against_0 rfl ?_
  refine j_iconst o (v := 0) dX12_against_1 rfl ?_
  refine j_putf o (M1 := upM M 1 0 0) (N1 := N) (g := 1) (slot := 0) (ci := 12) (ty := .int) rfl jin_X12 tyX12_ok nmX12 (by decide) rfl rfl jf_X12_114 (by decide +kernel) rfl rfl (Nat.le_of_ble_eq_true rfl) (fun _ => rfl) (fun _ => rfl) (fun _ hj => upM_ne _ _ _ hj) (fun _ _ => rfl) dX12_against_2 ?_
  refine j_aload_n o dX12_against_5 rfl ?_
  refine j_iload_n o dX12_against_6 rfl ?_
  refine j_callVi (g := 1) (ci := 12) o (c_X12_isLaw l P a1 (upM M 1 0 0) N _ h) dX12_against_7 jc_X12_233 jn_X12_isLaw rfl rfl rfl (fun _ => rfl) rfl rfl (fun r1 Mz2 Nz3 h => ?_)
  obtain ⟨rfl, rfl, h⟩ := h
  refine j_if_eq o (tgt := 22) dX12_against_10 (by decide) (fun c4 => ?_) (fun c4 => ?_)
  · replace h := h.1 c4
    refine j_iconst o (v := (-1)) dX12_against_22 rfl ?_
    rw [hE]
    exact j_iret o dX12_against_23 ⟨_, rfl, rfl, rfl, h⟩
  · replace h := h.2 c4
    refine j_aload_n o dX12_against_13 rfl ?_
    refine j_iload_n o dX12_against_14 rfl ?_
    refine j_iconst o (v := 0) dX12_against_15 rfl ?_
    refine j_callVi (g := 1) (ci := 12) o (c_X12_againstWithout l P a1 0 (upM M 1 0 0) N _ h) dX12_against_16 jc_X12_378 jn_X12_againstWithout rfl rfl rfl (fun _ => rfl) rfl rfl (fun r5 Mz6 Nz7 h => ?_)
    obtain ⟨rfl, rfl, h⟩ := h
    refine j_goto o (tgt := 23) dX12_against_19 (by decide) ?_
    rw [hE]
    exact j_iret o dX12_against_23 ⟨_, rfl, rfl, rfl, h⟩
