abbrev rm_X7_clause : Room := { frames := 45, cells := 0, slots := 0, locals := 1026 }
def w_X7_clause (P : jP) (a1 : Int32) (M : jM) (Q : Int32 → jM → Prop) : Prop :=
  w_X10_next P M (fun r1 M2 =>
  ∀ R20 : Prop, ((
   w_X10_miss P (M2 3 2) M2 (fun r4 M5 =>
   jb r4 ∧
   Q r4 M5)
  ) → R20) →
  (r1 < 48 → (
   R20
  )) ∧ (¬ r1 < 48 → (
   (r1 ≤ 53 → (
    vp_in a1 (12) ∧
    ∀ M11 : jM, M11 = upM (upM M2 3 2 ((M2 3 2) + 1)) 19 a1.toNatClampNeg (r1 - 48) →
    vp_in a1 (12) ∧
    w_X10_needs P 58 (upM M11 20 a1.toNatClampNeg (M11 4 3)) (fun r13 M14 =>
    (r13 = 0 → (
     Q 0 M14
    )) ∧ (¬ r13 = 0 → (
     w_X7_condition P 0 M14 (fun r17 M18 =>
     (¬ r17 = 0 → (
      vp_in a1 (12) ∧
      w_X10_passes P 117 (upM M18 21 a1.toNatClampNeg (M18 4 3)) (fun r22 M23 =>
      ∀ R125 : Int32 → jM → Prop, (∀ (x25 : Int32) (M26 : jM), (
       vp_in a1 (12) ∧
       jb x25 ∧
       Q x25 (upM M26 22 a1.toNatClampNeg (M26 4 3))
      ) → R125 x25 M26) →
      (r22 = 0 → (
       R125 1 M23
      )) ∧ (¬ r22 = 0 → (
       w_X7_condition P 0 M23 (fun r30 M31 =>
       (r30 = 0 → (
        R125 0 M31
       )) ∧ (¬ r30 = 0 → (
        R125 1 M31
       )))
      )))
     )) ∧ (r17 = 0 → (
      Q 0 M18
     )))
    )))
   )) ∧ (¬ r1 ≤ 53 → (
    R20
   ))
  )))
set_option maxRecDepth 20000 in
theorem c_X7_clause (l : Launch) (P : jP) (a1 : Int32) (M : jM) (N : jN) (Q : Int32 → jM → Prop) (h : w_X7_clause P a1 M Q) : jC l yX7_clause cX7_clause 4 (some .boolean) rm_X7_clause LC [.ref (P.1 4), .int a1] P M N (jqi P (fun r M' N' => N = N' ∧ Q r M' )) := by
  refine jC_of (by decide +kernel) [(0, .ref (P.1 4)), (1, .int a1)] (Nat.le_of_ble_eq_true rfl) rfl (fun X o => ?_)
  obtain ⟨E, hE⟩ : ∃ E, E = jE X rm_X7_clause (jqi P (fun r M' N' => N = N' ∧ Q r M' )) := ⟨_, rfl⟩
  rw [← hE]
  unfold w_X7_clause at h
  refine j_aload_n o dX7_clause_0 rfl ?_
  refine j_getf o (g := 4) (slot := 0) (ci := 7) (v := .ref (P.1 3)) rfl jin_X7 (by decide) rfl jf_X7_34 (fun _ => rfl) rfl dX7_clause_1 ?_
  refine j_callVi (g := 3) (ci := 10) o (c_X10_next l P M N _ h) dX7_clause_4 jc_X7_60 jn_X10_next rfl rfl rfl (fun _ => rfl) rfl rfl (fun r1 M2 Nz3 h => ?_)
  obtain ⟨rfl, h⟩ := h
  refine j_istore_n o [(2, .int r1), (0, .ref (P.1 4)), (1, .int a1)] dX7_clause_7 (by decide) rfl ?_
  refine j_iload_n o dX7_clause_8 rfl ?_
  refine j_bipush o (v := 48) dX7_clause_9 rfl ?_
  replace h := h (J X P M2 N 0 0 E 4 20 [(0, .ref (P.1 4))] []) (by
    intro h
    refine j_aload_n o dX7_clause_20 rfl ?_
    refine j_getf o (g := 4) (slot := 0) (ci := 7) (v := .ref (P.1 3)) rfl jin_X7 (by decide) rfl jf_X7_34 (fun _ => rfl) rfl dX7_clause_21 ?_
    refine j_aload_n o dX7_clause_24 rfl ?_
    refine j_getf o (g := 4) (slot := 0) (ci := 7) (v := .ref (P.1 3)) rfl jin_X7 (by decide) rfl jf_X7_34 (fun _ => rfl) rfl dX7_clause_25 ?_
    refine j_getf o (g := 3) (slot := 2) (ci := 10) (v := .int (M2 3 2)) rfl jin_X10 (by decide) rfl jf_X7_64 (fun _ => rfl) rfl dX7_clause_28 ?_
    refine j_callVi (g := 3) (ci := 10) o (c_X10_miss l P (M2 3 2) M2 N _ h) dX7_clause_31 jc_X7_67 jn_X10_miss rfl rfl rfl (fun _ => rfl) rfl rfl (fun r4 M5 Nz6 h => ?_)
    obtain ⟨rfl, h⟩ := h
    obtain ⟨hz7, h⟩ := h
    rw [hE]
    exact j_zret o hz7.1 dX7_clause_34 ⟨_, rfl, rfl, rfl, h⟩)
  refine j_icmp_lt o (tgt := 20) dX7_clause_11 (by decide) (fun c8 => ?_) (fun c8 => ?_)
  · replace h := h.1 c8
    exact j_pick [1] rfl h
  · replace h := h.2 c8
    refine j_iload_n o dX7_clause_14 rfl ?_
    refine j_bipush o (v := 53) dX7_clause_15 rfl ?_
    refine j_icmp_le o (tgt := 35) dX7_clause_17 (by decide) (fun c9 => ?_) (fun c9 => ?_)
    · replace h := h.1 c9
      refine j_aload_n o dX7_clause_35 rfl ?_
      refine j_getf o (g := 4) (slot := 0) (ci := 7) (v := .ref (P.1 3)) rfl jin_X7 (by decide) rfl jf_X7_34 (fun _ => rfl) rfl dX7_clause_36 ?_
      refine j_dup o dX7_clause_39 rfl ?_
      refine j_getf o (g := 3) (slot := 2) (ci := 10) (v := .int (M2 3 2)) rfl jin_X10 (by decide) rfl jf_X7_64 (fun _ => rfl) rfl dX7_clause_40 ?_
      refine j_iconst o (v := 1) dX7_clause_43 rfl ?_
      refine j_iadd o dX7_clause_44 ?_
      refine j_putf o (M1 := upM M2 3 2 ((M2 3 2) + 1)) (N1 := N) (g := 3) (slot := 2) (ci := 10) (ty := .int) rfl jin_X10 tyX10_ok nmX10 (by decide) rfl rfl jf_X7_64 (by decide +kernel) rfl rfl (Nat.le_of_ble_eq_true rfl) (fun _ => rfl) (fun _ => rfl) (fun _ hj => upM_ne _ _ _ hj) (fun _ _ => rfl) dX7_clause_45 ?_
      refine j_aload_n o dX7_clause_48 rfl ?_
      refine j_getf o (g := 4) (slot := 5) (ci := 7) (v := .ref (P.1 19)) rfl jin_X7 (by decide) rfl jf_X7_15 (fun _ => rfl) rfl dX7_clause_49 ?_
      refine j_iload_n o dX7_clause_52 rfl ?_
      refine j_iload_n o dX7_clause_53 rfl ?_
      refine j_bipush o (v := 48) dX7_clause_54 rfl ?_
      refine j_isub o dX7_clause_56 ?_
      obtain ⟨hb10, h⟩ := h
      refine j_iast o (g := 19) (fun _ _ _ => rfl) hb10 dX7_clause_57 ?_
      refine j_nameM (fun M11 hM11 => ?_)
      replace h := h M11 hM11
      refine j_aload_n o dX7_clause_58 rfl ?_
      refine j_getf o (g := 4) (slot := 6) (ci := 7) (v := .ref (P.1 20)) rfl jin_X7 (by decide) rfl jf_X7_18 (fun _ => rfl) rfl dX7_clause_59 ?_
      refine j_iload_n o dX7_clause_62 rfl ?_
      refine j_aload_n o dX7_clause_63 rfl ?_
      refine j_getf o (g := 4) (slot := 3) (ci := 7) (v := .int (M11 4 3)) rfl jin_X7 (by decide) rfl jf_X7_47 (fun _ => rfl) rfl dX7_clause_64 ?_
      obtain ⟨hb12, h⟩ := h
      refine j_iast o (g := 20) (fun _ _ _ => rfl) hb12 dX7_clause_67 ?_
      refine j_aload_n o dX7_clause_68 rfl ?_
      refine j_getf o (g := 4) (slot := 0) (ci := 7) (v := .ref (P.1 3)) rfl jin_X7 (by decide) rfl jf_X7_34 (fun _ => rfl) rfl dX7_clause_69 ?_
      refine j_bipush o (v := 58) dX7_clause_72 rfl ?_
      refine j_callVi (g := 3) (ci := 10) o (c_X10_needs l P 58 (upM M11 20 a1.toNatClampNeg (M11 4 3)) N _ h) dX7_clause_74 jc_X7_85 jn_X10_needs rfl rfl rfl (fun _ => rfl) rfl rfl (fun r13 M14 Nz15 h => ?_)
      obtain ⟨rfl, h⟩ := h
      refine j_if_eq o (tgt := 88) dX7_clause_77 (by decide) (fun c16 => ?_) (fun c16 => ?_)
      · replace h := h.1 c16
        refine j_iconst o (v := 0) dX7_clause_88 rfl ?_
        rw [hE]
        exact j_zret o rfl dX7_clause_89 ⟨_, rfl, rfl, rfl, h⟩
      · replace h := h.2 c16
        refine j_aload_n o dX7_clause_80 rfl ?_
        refine j_iconst o (v := 0) dX7_clause_81 rfl ?_
        refine j_callVi (g := 4) (ci := 7) o (c_X7_condition l P 0 M14 N _ h) dX7_clause_82 jc_X7_56 jn_X7_condition rfl rfl rfl (fun _ => rfl) rfl rfl (fun r17 M18 Nz19 h => ?_)
        obtain ⟨rfl, h⟩ := h
        refine j_if_ne o (tgt := 90) dX7_clause_85 (by decide) (fun c20 => ?_) (fun c20 => ?_)
        · replace h := h.1 c20
          refine j_aload_n o dX7_clause_90 rfl ?_
          refine j_getf o (g := 4) (slot := 7) (ci := 7) (v := .ref (P.1 21)) rfl jin_X7 (by decide) rfl jf_X7_21 (fun _ => rfl) rfl dX7_clause_91 ?_
          refine j_iload_n o dX7_clause_94 rfl ?_
          refine j_aload_n o dX7_clause_95 rfl ?_
          refine j_getf o (g := 4) (slot := 3) (ci := 7) (v := .int (M18 4 3)) rfl jin_X7 (by decide) rfl jf_X7_47 (fun _ => rfl) rfl dX7_clause_96 ?_
          obtain ⟨hb21, h⟩ := h
          refine j_iast o (g := 21) (fun _ _ _ => rfl) hb21 dX7_clause_99 ?_
          refine j_aload_n o dX7_clause_100 rfl ?_
          refine j_getf o (g := 4) (slot := 0) (ci := 7) (v := .ref (P.1 3)) rfl jin_X7 (by decide) rfl jf_X7_34 (fun _ => rfl) rfl dX7_clause_101 ?_
          refine j_bipush o (v := 117) dX7_clause_104 rfl ?_
          refine j_callVi (g := 3) (ci := 10) o (c_X10_passes l P 117 (upM M18 21 a1.toNatClampNeg (M18 4 3)) N _ h) dX7_clause_106 jc_X7_89 jn_X10_passes rfl rfl rfl (fun _ => rfl) rfl rfl (fun r22 M23 Nz24 h => ?_)
          obtain ⟨rfl, h⟩ := h
          replace h := h (fun (x25 : Int32) (M26 : jM) => J X P M26 N 0 0 E 4 125 [(0, .ref (P.1 4)), (1, .int a1)] [.int x25]) (by
            intro x25 M26 h
            refine j_istore_n o [(3, .int x25), (0, .ref (P.1 4)), (1, .int a1)] dX7_clause_125 (by decide) rfl ?_
            refine j_aload_n o dX7_clause_126 rfl ?_
            refine j_getf o (g := 4) (slot := 8) (ci := 7) (v := .ref (P.1 22)) rfl jin_X7 (by decide) rfl jf_X7_24 (fun _ => rfl) rfl dX7_clause_127 ?_
            refine j_iload_n o dX7_clause_130 rfl ?_
            refine j_aload_n o dX7_clause_131 rfl ?_
            refine j_getf o (g := 4) (slot := 3) (ci := 7) (v := .int (M26 4 3)) rfl jin_X7 (by decide) rfl jf_X7_47 (fun _ => rfl) rfl dX7_clause_132 ?_
            obtain ⟨hb27, h⟩ := h
            refine j_iast o (g := 22) (fun _ _ _ => rfl) hb27 dX7_clause_135 ?_
            refine j_iload_n o dX7_clause_136 rfl ?_
            obtain ⟨hz28, h⟩ := h
            rw [hE]
            exact j_zret o hz28.1 dX7_clause_137 ⟨_, rfl, rfl, rfl, h⟩)
          refine j_if_eq o (tgt := 120) dX7_clause_109 (by decide) (fun c29 => ?_) (fun c29 => ?_)
          · replace h := h.1 c29
            refine j_iconst o (v := 1) dX7_clause_120 rfl ?_
            refine j_goto o (tgt := 125) dX7_clause_121 (by decide) ?_
            exact j_pick [1, 2] rfl h
          · replace h := h.2 c29
            refine j_aload_n o dX7_clause_112 rfl ?_
            refine j_iconst o (v := 0) dX7_clause_113 rfl ?_
            refine j_callVi (g := 4) (ci := 7) o (c_X7_condition l P 0 M23 N _ h) dX7_clause_114 jc_X7_56 jn_X7_condition rfl rfl rfl (fun _ => rfl) rfl rfl (fun r30 M31 Nz32 h => ?_)
            obtain ⟨rfl, h⟩ := h
            refine j_if_eq o (tgt := 124) dX7_clause_117 (by decide) (fun c33 => ?_) (fun c33 => ?_)
            · replace h := h.1 c33
              refine j_iconst o (v := 0) dX7_clause_124 rfl ?_
              exact j_pick [1, 2] rfl h
            · replace h := h.2 c33
              refine j_iconst o (v := 1) dX7_clause_120 rfl ?_
              refine j_goto o (tgt := 125) dX7_clause_121 (by decide) ?_
              exact j_pick [1, 2] rfl h
        · replace h := h.2 c20
          refine j_iconst o (v := 0) dX7_clause_88 rfl ?_
          rw [hE]
          exact j_zret o rfl dX7_clause_89 ⟨_, rfl, rfl, rfl, h⟩
    · replace h := h.2 c9
      exact j_pick [1] rfl h

abbrev rm_X7_goesOn : Room := { frames := 4, cells := 0, slots := 0, locals := 83 }
def w_X7_goesOn (P : jP) (a1 : Int32) (M : jM) (Q : Int32 → jM → Prop) : Prop :=
  w_X10_next P (upM M 4 4 (a1 + 1)) (fun r1 M2 =>
  (¬ r1 = 0 → (
   (¬ (M2 4 4) = 12 → (
    w_X10_needs P 59 M2 (fun r6 M7 =>
    jb r6 ∧
    Q r6 M7)
   )) ∧ ((M2 4 4) = 12 → (
    w_X10_miss P (M2 3 2) M2 (fun r10 M11 =>
    jb r10 ∧
    Q r10 M11)
   ))
  )) ∧ (r1 = 0 → (
   Q 0 M2
  )))
set_option maxRecDepth 20000 in
theorem c_X7_goesOn (l : Launch) (P : jP) (a1 : Int32) (M : jM) (N : jN) (Q : Int32 → jM → Prop) (h : w_X7_goesOn P a1 M Q) : jC l yX7_goesOn cX7_goesOn 2 (some .boolean) rm_X7_goesOn LC [.ref (P.1 4), .int a1] P M N (jqi P (fun r M' N' => N = N' ∧ Q r M' )) := by
  refine jC_of (by decide +kernel) [(0, .ref (P.1 4)), (1, .int a1)] (Nat.le_of_ble_eq_true rfl) rfl (fun X o => ?_)
  obtain ⟨E, hE⟩ : ∃ E, E = jE X rm_X7_goesOn (jqi P (fun r M' N' => N = N' ∧ Q r M' )) := ⟨_, rfl⟩
  rw [← hE]
  unfold w_X7_goesOn at h
  refine j_aload_n o dX7_goesOn_0 rfl ?_
  refine j_iload_n o dX7_goesOn_1 rfl ?_
  refine j_iconst o (v := 1) dX7_goesOn_2 rfl ?_
  refine j_iadd o dX7_goesOn_3 ?_
  refine j_putf o (M1 := upM M 4 4 (a1 + 1)) (N1 := N) (g := 4) (slot := 4) (ci := 7) (ty := .int) rfl jin_X7 tyX7_ok nmX7 (by decide) rfl rfl jf_X7_50 (by decide +kernel) rfl rfl (Nat.le_of_ble_eq_true rfl) (fun _ => rfl) (fun _ => rfl) (fun _ hj => upM_ne _ _ _ hj) (fun _ _ => rfl) dX7_goesOn_4 ?_
  refine j_aload_n o dX7_goesOn_7 rfl ?_
  refine j_getf o (g := 4) (slot := 0) (ci := 7) (v := .ref (P.1 3)) rfl jin_X7 (by decide) rfl jf_X7_34 (fun _ => rfl) rfl dX7_goesOn_8 ?_
  refine j_callVi (g := 3) (ci := 10) o (c_X10_next l P (upM M 4 4 (a1 + 1)) N _ h) dX7_goesOn_11 jc_X7_60 jn_X10_next rfl rfl rfl (fun _ => rfl) rfl rfl (fun r1 M2 Nz3 h => ?_)
  obtain ⟨rfl, h⟩ := h
  refine j_if_ne o (tgt := 19) dX7_goesOn_14 (by decide) (fun c4 => ?_) (fun c4 => ?_)
  · replace h := h.1 c4
    refine j_aload_n o dX7_goesOn_19 rfl ?_
    refine j_getf o (g := 4) (slot := 4) (ci := 7) (v := .int (M2 4 4)) rfl jin_X7 (by decide) rfl jf_X7_50 (fun _ => rfl) rfl dX7_goesOn_20 ?_
    refine j_bipush o (v := 12) dX7_goesOn_23 rfl ?_
    refine j_icmp_ne o (tgt := 45) dX7_goesOn_25 (by decide) (fun c5 => ?_) (fun c5 => ?_)
    · replace h := h.1 c5
      refine j_aload_n o dX7_goesOn_45 rfl ?_
      refine j_getf o (g := 4) (slot := 0) (ci := 7) (v := .ref (P.1 3)) rfl jin_X7 (by decide) rfl jf_X7_34 (fun _ => rfl) rfl dX7_goesOn_46 ?_
      refine j_bipush o (v := 59) dX7_goesOn_49 rfl ?_
      refine j_callVi (g := 3) (ci := 10) o (c_X10_needs l P 59 M2 N _ h) dX7_goesOn_51 jc_X7_85 jn_X10_needs rfl rfl rfl (fun _ => rfl) rfl rfl (fun r6 M7 Nz8 h => ?_)
      obtain ⟨rfl, h⟩ := h
      obtain ⟨hz9, h⟩ := h
      rw [hE]
      exact j_zret o hz9.1 dX7_goesOn_54 ⟨_, rfl, rfl, rfl, h⟩
    · replace h := h.2 c5
      refine j_aload_n o dX7_goesOn_28 rfl ?_
      refine j_getf o (g := 4) (slot := 0) (ci := 7) (v := .ref (P.1 3)) rfl jin_X7 (by decide) rfl jf_X7_34 (fun _ => rfl) rfl dX7_goesOn_29 ?_
      refine j_aload_n o dX7_goesOn_32 rfl ?_
      refine j_getf o (g := 4) (slot := 0) (ci := 7) (v := .ref (P.1 3)) rfl jin_X7 (by decide) rfl jf_X7_34 (fun _ => rfl) rfl dX7_goesOn_33 ?_
      refine j_getf o (g := 3) (slot := 2) (ci := 10) (v := .int (M2 3 2)) rfl jin_X10 (by decide) rfl jf_X7_64 (fun _ => rfl) rfl dX7_goesOn_36 ?_
      refine j_callVi (g := 3) (ci := 10) o (c_X10_miss l P (M2 3 2) M2 N _ h) dX7_goesOn_39 jc_X7_67 jn_X10_miss rfl rfl rfl (fun _ => rfl) rfl rfl (fun r10 M11 Nz12 h => ?_)
      obtain ⟨rfl, h⟩ := h
      refine j_goto o (tgt := 54) dX7_goesOn_42 (by decide) ?_
      obtain ⟨hz13, h⟩ := h
      rw [hE]
      exact j_zret o hz13.1 dX7_goesOn_54 ⟨_, rfl, rfl, rfl, h⟩
  · replace h := h.2 c4
    refine j_iconst o (v := 0) dX7_goesOn_17 rfl ?_
    rw [hE]
    exact j_zret o rfl dX7_goesOn_18 ⟨_, rfl, rfl, rfl, h⟩

abbrev rm_X10_hasDigit : Room := { frames := 1, cells := 0, slots := 0, locals := 20 }
def w_X10_hasDigit (P : jP)  (M : jM) (Q : Int32 → Prop) : Prop :=
  w_X10_here P M (fun r1 =>
  (r1 < 48 → (
   Q 0
  )) ∧ (¬ r1 < 48 → (
   w_X10_here P M (fun r5 =>
   (57 < r5 → (
    Q 0
   )) ∧ (¬ 57 < r5 → (
    Q 1
   )))
  )))
set_option maxRecDepth 20000 in
theorem c_X10_hasDigit (l : Launch) (P : jP)  (M : jM) (N : jN) (Q : Int32 → Prop) (h : w_X10_hasDigit P M Q) : jC l yX10_hasDigit cX10_hasDigit 1 (some .boolean) rm_X10_hasDigit LC [.ref (P.1 3)] P M N (jqi P (fun r M' N' => M = M' ∧ N = N' ∧ Q r )) := by
  refine jC_of (by decide +kernel) [(0, .ref (P.1 3))] (Nat.le_of_ble_eq_true rfl) rfl (fun X o => ?_)
  obtain ⟨E, hE⟩ : ∃ E, E = jE X rm_X10_hasDigit (jqi P (fun r M' N' => M = M' ∧ N = N' ∧ Q r )) := ⟨_, rfl⟩
  rw [← hE]
  unfold w_X10_hasDigit at h
  refine j_aload_n o dX10_hasDigit_0 rfl ?_
  refine j_callVi (g := 3) (ci := 10) o (c_X10_here l P M N _ h) dX10_hasDigit_1 jc_X10_25 jn_X10_here rfl rfl rfl (fun _ => rfl) rfl rfl (fun r1 Mz2 Nz3 h => ?_)
  obtain ⟨rfl, rfl, h⟩ := h
  refine j_bipush o (v := 48) dX10_hasDigit_4 rfl ?_
  refine j_icmp_lt o (tgt := 22) dX10_hasDigit_6 (by decide) (fun c4 => ?_) (fun c4 => ?_)
  · replace h := h.1 c4
    refine j_iconst o (v := 0) dX10_hasDigit_22 rfl ?_
    rw [hE]
    exact j_zret o rfl dX10_hasDigit_23 ⟨_, rfl, rfl, rfl, rfl, h⟩
  · replace h := h.2 c4
    refine j_aload_n o dX10_hasDigit_9 rfl ?_
    refine j_callVi (g := 3) (ci := 10) o (c_X10_here l P M N _ h) dX10_hasDigit_10 jc_X10_25 jn_X10_here rfl rfl rfl (fun _ => rfl) rfl rfl (fun r5 Mz6 Nz7 h => ?_)
    obtain ⟨rfl, rfl, h⟩ := h
    refine j_bipush o (v := 57) dX10_hasDigit_13 rfl ?_
    refine j_icmp_gt o (tgt := 22) dX10_hasDigit_15 (by decide) (fun c8 => ?_) (fun c8 => ?_)
    · replace h := h.1 c8
      refine j_iconst o (v := 0) dX10_hasDigit_22 rfl ?_
      rw [hE]
      exact j_zret o rfl dX10_hasDigit_23 ⟨_, rfl, rfl, rfl, rfl, h⟩
    · replace h := h.2 c8
      refine j_iconst o (v := 1) dX10_hasDigit_18 rfl ?_
      refine j_goto o (tgt := 23) dX10_hasDigit_19 (by decide) ?_
      rw [hE]
      exact j_zret o rfl dX10_hasDigit_23 ⟨_, rfl, rfl, rfl, rfl, h⟩

abbrev rm_X7_numberAbove : Room := { frames := 2, cells := 0, slots := 0, locals := 40 }
def w_X7_numberAbove (P : jP) (a1 : Int32) (M : jM) (Q : Int32 → jM → Prop) : Prop :=
  ∀ R4 : Int32 → Int32 → jM → Prop, (∀ (x1 : Int32) (x2 : Int32) (M3 : jM), (
   ∀ R54 : Prop, ((
    w_X10_hasDigit P M3 (fun r4 =>
    (r4 = 0 → (
     ∀ R92 : Prop, ((
      w_X10_miss P ((M3 3 2) - 1) M3 (fun r8 M9 =>
      Q (-1) M9)
     ) → R92) →
     (x1 ≤ a1 → (
      R92
     )) ∧ (¬ x1 ≤ a1 → (
      (x1 < 12 → (
       ∀ M13 : jM, M13 = upM M3 4 10 (if (M3 4 10) < x1 then x1 else (M3 4 10)) →
       Q x1 M13
      )) ∧ (¬ x1 < 12 → (
       R92
      ))
     ))
    )) ∧ (¬ r4 = 0 → (
     w_X10_miss P (M3 3 2) M3 (fun r14 M15 =>
     Q (-1) M15)
    )))
   ) → R54) →
   (2 ≤ x2 → (
    R54
   )) ∧ (¬ 2 ≤ x2 → (
    w_X10_hasDigit P M3 (fun r18 =>
    (r18 = 0 → (
     R54
    )) ∧ (¬ r18 = 0 → (
     w_X10_here P M3 (fun r22 =>
     R4 (((x1 * 10) + r22) - 48) (x2 + 1) (upM M3 3 2 ((M3 3 2) + 1)))
    )))
   ))
  ) → R4 x1 x2 M3) →
  R4 0 0 M
set_option maxRecDepth 20000 in
theorem c_X7_numberAbove (l : Launch) (P : jP) (a1 : Int32) (M : jM) (N : jN) (Q : Int32 → jM → Prop) (h : w_X7_numberAbove P a1 M Q) : jC l yX7_numberAbove cX7_numberAbove 4 (some .int) rm_X7_numberAbove LC [.ref (P.1 4), .int a1] P M N (jqi P (fun r M' N' => N = N' ∧ Q r M' )) := by
  refine jC_of (by decide +kernel) [(0, .ref (P.1 4)), (1, .int a1)] (Nat.le_of_ble_eq_true rfl) rfl (fun X o => ?_)
  obtain ⟨E, hE⟩ : ∃ E, E = jE X rm_X7_numberAbove (jqi P (fun r M' N' => N = N' ∧ Q r M' )) := ⟨_, rfl⟩
  rw [← hE]
  unfold w_X7_numberAbove at h
  refine j_iconst o (v := 0) dX7_numberAbove_0 rfl ?_
  refine j_istore_n o [(2, .int 0), (0, .ref (P.1 4)), (1, .int a1)] dX7_numberAbove_1 (by decide) rfl ?_
  refine j_iconst o (v := 0) dX7_numberAbove_2 rfl ?_
  refine j_istore_n o [(3, .int 0), (2, .int 0), (0, .ref (P.1 4)), (1, .int a1)] dX7_numberAbove_3 (by decide) rfl ?_
  replace h := h (fun (x1 : Int32) (x2 : Int32) (M3 : jM) => J X P M3 N 0 0 E 4 4 [(0, .ref (P.1 4)), (1, .int a1), (2, .int x1), (3, .int x2)] []) (by
    intro x1 x2 M3 h
    refine j_iload_n o dX7_numberAbove_4 rfl ?_
    refine j_iconst o (v := 2) dX7_numberAbove_5 rfl ?_
    replace h := h (J X P M3 N 0 0 E 4 54 [(0, .ref (P.1 4)), (1, .int a1), (2, .int x1)] []) (by
      intro h
      refine j_aload_n o dX7_numberAbove_54 rfl ?_
      refine j_getf o (g := 4) (slot := 0) (ci := 7) (v := .ref (P.1 3)) rfl jin_X7 (by decide) rfl jf_X7_34 (fun _ => rfl) rfl dX7_numberAbove_55 ?_
      refine j_callVi (g := 3) (ci := 10) o (c_X10_hasDigit l P M3 N _ h) dX7_numberAbove_58 jc_X7_133 jn_X10_hasDigit rfl rfl rfl (fun _ => rfl) rfl rfl (fun r4 Mz5 Nz6 h => ?_)
      obtain ⟨rfl, rfl, h⟩ := h
      refine j_if_eq o (tgt := 81) dX7_numberAbove_61 (by decide) (fun c7 => ?_) (fun c7 => ?_)
      · replace h := h.1 c7
        refine j_iload_n o dX7_numberAbove_81 rfl ?_
        refine j_iload_n o dX7_numberAbove_82 rfl ?_
        replace h := h (J X P M3 N 0 0 E 4 92 [(0, .ref (P.1 4))] []) (by
          intro h
          refine j_aload_n o dX7_numberAbove_92 rfl ?_
          refine j_getf o (g := 4) (slot := 0) (ci := 7) (v := .ref (P.1 3)) rfl jin_X7 (by decide) rfl jf_X7_34 (fun _ => rfl) rfl dX7_numberAbove_93 ?_
          refine j_aload_n o dX7_numberAbove_96 rfl ?_
          refine j_getf o (g := 4) (slot := 0) (ci := 7) (v := .ref (P.1 3)) rfl jin_X7 (by decide) rfl jf_X7_34 (fun _ => rfl) rfl dX7_numberAbove_97 ?_
          refine j_getf o (g := 3) (slot := 2) (ci := 10) (v := .int (M3 3 2)) rfl jin_X10 (by decide) rfl jf_X7_64 (fun _ => rfl) rfl dX7_numberAbove_100 ?_
          refine j_iconst o (v := 1) dX7_numberAbove_103 rfl ?_
          refine j_isub o dX7_numberAbove_104 ?_
          refine j_callVi (g := 3) (ci := 10) o (c_X10_miss l P ((M3 3 2) - 1) M3 N _ h) dX7_numberAbove_105 jc_X7_67 jn_X10_miss rfl rfl rfl (fun _ => rfl) rfl rfl (fun r8 M9 Nz10 h => ?_)
          obtain ⟨rfl, h⟩ := h
          refine j_pop o dX7_numberAbove_108 rfl ?_
          refine j_iconst o (v := (-1)) dX7_numberAbove_109 rfl ?_
          rw [hE]
          exact j_iret o dX7_numberAbove_110 ⟨_, rfl, rfl, rfl, h⟩)
        refine j_icmp_le o (tgt := 92) dX7_numberAbove_83 (by decide) (fun c11 => ?_) (fun c11 => ?_)
        · replace h := h.1 c11
          exact j_pick [0] rfl h
        · replace h := h.2 c11
          refine j_iload_n o dX7_numberAbove_86 rfl ?_
          refine j_bipush o (v := 12) dX7_numberAbove_87 rfl ?_
          refine j_icmp_lt o (tgt := 111) dX7_numberAbove_89 (by decide) (fun c12 => ?_) (fun c12 => ?_)
          · replace h := h.1 c12
            refine j_aload_n o dX7_numberAbove_111 rfl ?_
            refine j_aload_n o dX7_numberAbove_112 rfl ?_
            refine j_getf o (g := 4) (slot := 10) (ci := 7) (v := .int (M3 4 10)) rfl jin_X7 (by decide) rfl jf_X7_53 (fun _ => rfl) rfl dX7_numberAbove_113 ?_
            refine j_iload_n o dX7_numberAbove_116 rfl ?_
            refine j_mmax o dX7_numberAbove_117 jc_X7_137 rfl ?_
            refine j_putf o (M1 := upM M3 4 10 (if (M3 4 10) < x1 then x1 else (M3 4 10))) (N1 := N) (g := 4) (slot := 10) (ci := 7) (ty := .int) rfl jin_X7 tyX7_ok nmX7 (by decide) rfl rfl jf_X7_53 (by decide +kernel) rfl rfl (Nat.le_of_ble_eq_true rfl) (fun _ => rfl) (fun _ => rfl) (fun _ hj => upM_ne _ _ _ hj) (fun _ _ => rfl) dX7_numberAbove_120 ?_
            refine j_nameM (fun M13 hM13 => ?_)
            replace h := h M13 hM13
            refine j_iload_n o dX7_numberAbove_123 rfl ?_
            rw [hE]
            exact j_iret o dX7_numberAbove_124 ⟨_, rfl, rfl, rfl, h⟩
          · replace h := h.2 c12
            exact j_pick [0] rfl h
      · replace h := h.2 c7
        refine j_aload_n o dX7_numberAbove_64 rfl ?_
        refine j_getf o (g := 4) (slot := 0) (ci := 7) (v := .ref (P.1 3)) rfl jin_X7 (by decide) rfl jf_X7_34 (fun _ => rfl) rfl dX7_numberAbove_65 ?_
        refine j_aload_n o dX7_numberAbove_68 rfl ?_
        refine j_getf o (g := 4) (slot := 0) (ci := 7) (v := .ref (P.1 3)) rfl jin_X7 (by decide) rfl jf_X7_34 (fun _ => rfl) rfl dX7_numberAbove_69 ?_
        refine j_getf o (g := 3) (slot := 2) (ci := 10) (v := .int (M3 3 2)) rfl jin_X10 (by decide) rfl jf_X7_64 (fun _ => rfl) rfl dX7_numberAbove_72 ?_
        refine j_callVi (g := 3) (ci := 10) o (c_X10_miss l P (M3 3 2) M3 N _ h) dX7_numberAbove_75 jc_X7_67 jn_X10_miss rfl rfl rfl (fun _ => rfl) rfl rfl (fun r14 M15 Nz16 h => ?_)
        obtain ⟨rfl, h⟩ := h
        refine j_pop o dX7_numberAbove_78 rfl ?_
        refine j_iconst o (v := (-1)) dX7_numberAbove_79 rfl ?_
        rw [hE]
        exact j_iret o dX7_numberAbove_80 ⟨_, rfl, rfl, rfl, h⟩)
    refine j_icmp_ge o (tgt := 54) dX7_numberAbove_6 (by decide) (fun c17 => ?_) (fun c17 => ?_)
    · replace h := h.1 c17
      exact j_pick [0, 1, 2] rfl h
    · replace h := h.2 c17
      refine j_aload_n o dX7_numberAbove_9 rfl ?_
      refine j_getf o (g := 4) (slot := 0) (ci := 7) (v := .ref (P.1 3)) rfl jin_X7 (by decide) rfl jf_X7_34 (fun _ => rfl) rfl dX7_numberAbove_10 ?_
      refine j_callVi (g := 3) (ci := 10) o (c_X10_hasDigit l P M3 N _ h) dX7_numberAbove_13 jc_X7_133 jn_X10_hasDigit rfl rfl rfl (fun _ => rfl) rfl rfl (fun r18 Mz19 Nz20 h => ?_)
      obtain ⟨rfl, rfl, h⟩ := h
      refine j_if_eq o (tgt := 54) dX7_numberAbove_16 (by decide) (fun c21 => ?_) (fun c21 => ?_)
      · replace h := h.1 c21
        exact j_pick [0, 1, 2] rfl h
      · replace h := h.2 c21
        refine j_iload_n o dX7_numberAbove_19 rfl ?_
        refine j_bipush o (v := 10) dX7_numberAbove_20 rfl ?_
        refine j_imul o dX7_numberAbove_22 ?_
        refine j_aload_n o dX7_numberAbove_23 rfl ?_
        refine j_getf o (g := 4) (slot := 0) (ci := 7) (v := .ref (P.1 3)) rfl jin_X7 (by decide) rfl jf_X7_34 (fun _ => rfl) rfl dX7_numberAbove_24 ?_
        refine j_callVi (g := 3) (ci := 10) o (c_X10_here l P M3 N _ h) dX7_numberAbove_27 jc_X7_115 jn_X10_here rfl rfl rfl (fun _ => rfl) rfl rfl (fun r22 Mz23 Nz24 h => ?_)
        obtain ⟨rfl, rfl, h⟩ := h
        refine j_iadd o dX7_numberAbove_30 ?_
        refine j_bipush o (v := 48) dX7_numberAbove_31 rfl ?_
        refine j_isub o dX7_numberAbove_33 ?_
        refine j_istore_n o [(2, .int (((x1 * 10) + r22) - 48)), (0, .ref (P.1 4)), (1, .int a1), (3, .int x2)] dX7_numberAbove_34 (by decide) rfl ?_
        refine j_aload_n o dX7_numberAbove_35 rfl ?_
        refine j_getf o (g := 4) (slot := 0) (ci := 7) (v := .ref (P.1 3)) rfl jin_X7 (by decide) rfl jf_X7_34 (fun _ => rfl) rfl dX7_numberAbove_36 ?_
        refine j_dup o dX7_numberAbove_39 rfl ?_
        refine j_getf o (g := 3) (slot := 2) (ci := 10) (v := .int (M3 3 2)) rfl jin_X10 (by decide) rfl jf_X7_64 (fun _ => rfl) rfl dX7_numberAbove_40 ?_
        refine j_iconst o (v := 1) dX7_numberAbove_43 rfl ?_
        refine j_iadd o dX7_numberAbove_44 ?_
        refine j_putf o (M1 := upM M3 3 2 ((M3 3 2) + 1)) (N1 := N) (g := 3) (slot := 2) (ci := 10) (ty := .int) rfl jin_X10 tyX10_ok nmX10 (by decide) rfl rfl jf_X7_64 (by decide +kernel) rfl rfl (Nat.le_of_ble_eq_true rfl) (fun _ => rfl) (fun _ => rfl) (fun _ hj => upM_ne _ _ _ hj) (fun _ _ => rfl) dX7_numberAbove_45 ?_
        refine j_iinc o (v := x2 + 1) [(3, .int (x2 + 1)), (2, .int (((x1 * 10) + r22) - 48)), (0, .ref (P.1 4)), (1, .int a1)] dX7_numberAbove_48 rfl rfl (by decide) rfl ?_
        refine j_goto o (tgt := 4) dX7_numberAbove_51 (by decide) ?_
        exact j_pick [2, 3, 1, 0] rfl h)
  exact j_pick [2, 3, 1, 0] rfl h

abbrev rm_X7_target : Room := { frames := 4, cells := 0, slots := 0, locals := 83 }
def w_X7_target (P : jP) (a1 : Int32) (M : jM) (Q : Int32 → jM → Prop) : Prop :=
  w_X10_next P M (fun r1 M2 =>
  ∀ R26 : Prop, ((
   w_X10_needs P 61 M2 (fun r4 M5 =>
   (¬ r4 = 0 → (
    w_X10_next P M5 (fun r8 M9 =>
    ∀ R83 : Prop, ((
     ∀ R112 : Int32 → Int32 → Prop, (∀ (x11 : Int32) (x12 : Int32), (
      Q (x11 + x12) (upM M9 3 2 ((M9 3 2) + 1))
     ) → R112 x11 x12) →
     (¬ r8 = 45 → (
      R112 13 (r8 - 48)
     )) ∧ (r8 = 45 → (
      R112 13 (-1)
     ))
    ) → R83) →
    (r8 = 45 → (
     R83
    )) ∧ (¬ r8 = 45 → (
     ∀ R66 : Prop, ((
      w_X10_miss P (M9 3 2) M9 (fun r15 M16 =>
      Q (-1) M16)
     ) → R66) →
     (r8 < 48 → (
      R66
     )) ∧ (¬ r8 < 48 → (
      (r8 ≤ 53 → (
       R83
      )) ∧ (¬ r8 ≤ 53 → (
       R66
      ))
     ))
    )))
   )) ∧ (r4 = 0 → (
    Q (-1) M5
   )))
  ) → R26) →
  (r1 < 48 → (
   R26
  )) ∧ (¬ r1 < 48 → (
   (57 < r1 → (
    R26
   )) ∧ (¬ 57 < r1 → (
    w_X7_numberAbove P a1 M2 (fun r22 M23 =>
    Q r22 M23)
   ))
  )))
set_option maxRecDepth 20000 in
theorem c_X7_target (l : Launch) (P : jP) (a1 : Int32) (M : jM) (N : jN) (Q : Int32 → jM → Prop) (h : w_X7_target P a1 M Q) : jC l yX7_target cX7_target 3 (some .int) rm_X7_target LC [.ref (P.1 4), .int a1] P M N (jqi P (fun r M' N' => N = N' ∧ Q r M' )) := by
  refine jC_of (by decide +kernel) [(0, .ref (P.1 4)), (1, .int a1)] (Nat.le_of_ble_eq_true rfl) rfl (fun X o => ?_)
  obtain ⟨E, hE⟩ : ∃ E, E = jE X rm_X7_target (jqi P (fun r M' N' => N = N' ∧ Q r M' )) := ⟨_, rfl⟩
  rw [← hE]
  unfold w_X7_target at h
  refine j_aload_n o dX7_target_0 rfl ?_
  refine j_getf o (g := 4) (slot := 0) (ci := 7) (v := .ref (P.1 3)) rfl jin_X7 (by decide) rfl jf_X7_34 (fun _ => rfl) rfl dX7_target_1 ?_
  refine j_callVi (g := 3) (ci := 10) o (c_X10_next l P M N _ h) dX7_target_4 jc_X7_60 jn_X10_next rfl rfl rfl (fun _ => rfl) rfl rfl (fun r1 M2 Nz3 h => ?_)
  obtain ⟨rfl, h⟩ := h
  refine j_istore_n o [(2, .int r1), (0, .ref (P.1 4)), (1, .int a1)] dX7_target_7 (by decide) rfl ?_
  refine j_iload_n o dX7_target_8 rfl ?_
  refine j_bipush o (v := 48) dX7_target_9 rfl ?_
  replace h := h (J X P M2 N 0 0 E 3 26 [(0, .ref (P.1 4))] []) (by
    intro h
    refine j_aload_n o dX7_target_26 rfl ?_
    refine j_getf o (g := 4) (slot := 0) (ci := 7) (v := .ref (P.1 3)) rfl jin_X7 (by decide) rfl jf_X7_34 (fun _ => rfl) rfl dX7_target_27 ?_
    refine j_bipush o (v := 61) dX7_target_30 rfl ?_
    refine j_callVi (g := 3) (ci := 10) o (c_X10_needs l P 61 M2 N _ h) dX7_target_32 jc_X7_85 jn_X10_needs rfl rfl rfl (fun _ => rfl) rfl rfl (fun r4 M5 Nz6 h => ?_)
    obtain ⟨rfl, h⟩ := h
    refine j_if_ne o (tgt := 40) dX7_target_35 (by decide) (fun c7 => ?_) (fun c7 => ?_)
    · replace h := h.1 c7
      refine j_aload_n o dX7_target_40 rfl ?_
      refine j_getf o (g := 4) (slot := 0) (ci := 7) (v := .ref (P.1 3)) rfl jin_X7 (by decide) rfl jf_X7_34 (fun _ => rfl) rfl dX7_target_41 ?_
      refine j_callVi (g := 3) (ci := 10) o (c_X10_next l P M5 N _ h) dX7_target_44 jc_X7_60 jn_X10_next rfl rfl rfl (fun _ => rfl) rfl rfl (fun r8 M9 Nz10 h => ?_)
      obtain ⟨rfl, h⟩ := h
      refine j_istore_n o [(2, .int r8), (0, .ref (P.1 4))] dX7_target_47 (by decide) rfl ?_
      refine j_iload_n o dX7_target_48 rfl ?_
      refine j_bipush o (v := 45) dX7_target_49 rfl ?_
      replace h := h (J X P M9 N 0 0 E 3 83 [(0, .ref (P.1 4)), (2, .int r8)] []) (by
        intro h
        refine j_aload_n o dX7_target_83 rfl ?_
        refine j_getf o (g := 4) (slot := 0) (ci := 7) (v := .ref (P.1 3)) rfl jin_X7 (by decide) rfl jf_X7_34 (fun _ => rfl) rfl dX7_target_84 ?_
        refine j_dup o dX7_target_87 rfl ?_
        refine j_getf o (g := 3) (slot := 2) (ci := 10) (v := .int (M9 3 2)) rfl jin_X10 (by decide) rfl jf_X7_64 (fun _ => rfl) rfl dX7_target_88 ?_
        refine j_iconst o (v := 1) dX7_target_91 rfl ?_
        refine j_iadd o dX7_target_92 ?_
        refine j_putf o (M1 := upM M9 3 2 ((M9 3 2) + 1)) (N1 := N) (g := 3) (slot := 2) (ci := 10) (ty := .int) rfl jin_X10 tyX10_ok nmX10 (by decide) rfl rfl jf_X7_64 (by decide +kernel) rfl rfl (Nat.le_of_ble_eq_true rfl) (fun _ => rfl) (fun _ => rfl) (fun _ hj => upM_ne _ _ _ hj) (fun _ _ => rfl) dX7_target_93 ?_
        refine j_bipush o (v := 13) dX7_target_96 rfl ?_
        refine j_iload_n o dX7_target_98 rfl ?_
        refine j_bipush o (v := 45) dX7_target_99 rfl ?_
        replace h := h (fun (x11 : Int32) (x12 : Int32) => J X P (upM M9 3 2 ((M9 3 2) + 1)) N 0 0 E 3 112 [] [.int x12, .int x11]) (by
          intro x11 x12 h
          refine j_iadd o dX7_target_112 ?_
          rw [hE]
          exact j_iret o dX7_target_113 ⟨_, rfl, rfl, rfl, h⟩)
        refine j_icmp_ne o (tgt := 108) dX7_target_101 (by decide) (fun c13 => ?_) (fun c13 => ?_)
        · replace h := h.1 c13
          refine j_iload_n o dX7_target_108 rfl ?_
          refine j_bipush o (v := 48) dX7_target_109 rfl ?_
          refine j_isub o dX7_target_111 ?_
          exact j_pick [] rfl h
        · replace h := h.2 c13
          refine j_iconst o (v := (-1)) dX7_target_104 rfl ?_
          refine j_goto o (tgt := 112) dX7_target_105 (by decide) ?_
          exact j_pick [] rfl h)
      refine j_icmp_eq o (tgt := 83) dX7_target_51 (by decide) (fun c14 => ?_) (fun c14 => ?_)
      · replace h := h.1 c14
        exact j_pick [1, 0] rfl h
      · replace h := h.2 c14
        refine j_iload_n o dX7_target_54 rfl ?_
        refine j_bipush o (v := 48) dX7_target_55 rfl ?_
        replace h := h (J X P M9 N 0 0 E 3 66 [(0, .ref (P.1 4))] []) (by
          intro h
          refine j_aload_n o dX7_target_66 rfl ?_
          refine j_getf o (g := 4) (slot := 0) (ci := 7) (v := .ref (P.1 3)) rfl jin_X7 (by decide) rfl jf_X7_34 (fun _ => rfl) rfl dX7_target_67 ?_
          refine j_aload_n o dX7_target_70 rfl ?_
          refine j_getf o (g := 4) (slot := 0) (ci := 7) (v := .ref (P.1 3)) rfl jin_X7 (by decide) rfl jf_X7_34 (fun _ => rfl) rfl dX7_target_71 ?_
          refine j_getf o (g := 3) (slot := 2) (ci := 10) (v := .int (M9 3 2)) rfl jin_X10 (by decide) rfl jf_X7_64 (fun _ => rfl) rfl dX7_target_74 ?_
          refine j_callVi (g := 3) (ci := 10) o (c_X10_miss l P (M9 3 2) M9 N _ h) dX7_target_77 jc_X7_67 jn_X10_miss rfl rfl rfl (fun _ => rfl) rfl rfl (fun r15 M16 Nz17 h => ?_)
          obtain ⟨rfl, h⟩ := h
          refine j_pop o dX7_target_80 rfl ?_
          refine j_iconst o (v := (-1)) dX7_target_81 rfl ?_
          rw [hE]
          exact j_iret o dX7_target_82 ⟨_, rfl, rfl, rfl, h⟩)
        refine j_icmp_lt o (tgt := 66) dX7_target_57 (by decide) (fun c18 => ?_) (fun c18 => ?_)
        · replace h := h.1 c18
          exact j_pick [1] rfl h
        · replace h := h.2 c18
          refine j_iload_n o dX7_target_60 rfl ?_
          refine j_bipush o (v := 53) dX7_target_61 rfl ?_
          refine j_icmp_le o (tgt := 83) dX7_target_63 (by decide) (fun c19 => ?_) (fun c19 => ?_)
          · replace h := h.1 c19
            exact j_pick [1, 0] rfl h
          · replace h := h.2 c19
            exact j_pick [1] rfl h
    · replace h := h.2 c7
      refine j_iconst o (v := (-1)) dX7_target_38 rfl ?_
      rw [hE]
      exact j_iret o dX7_target_39 ⟨_, rfl, rfl, rfl, h⟩)
  refine j_icmp_lt o (tgt := 26) dX7_target_11 (by decide) (fun c20 => ?_) (fun c20 => ?_)
  · replace h := h.1 c20
    exact j_pick [1] rfl h
  · replace h := h.2 c20
    refine j_iload_n o dX7_target_14 rfl ?_
    refine j_bipush o (v := 57) dX7_target_15 rfl ?_
    refine j_icmp_gt o (tgt := 26) dX7_target_17 (by decide) (fun c21 => ?_) (fun c21 => ?_)
    · replace h := h.1 c21
      exact j_pick [1] rfl h
    · replace h := h.2 c21
      refine j_aload_n o dX7_target_20 rfl ?_
      refine j_iload_n o dX7_target_21 rfl ?_
      refine j_callVi (g := 4) (ci := 7) o (c_X7_numberAbove l P a1 M2 N _ h) dX7_target_22 jc_X7_130 jn_X7_numberAbove rfl rfl rfl (fun _ => rfl) rfl rfl (fun r22 M23 Nz24 h => ?_)
      obtain ⟨rfl, h⟩ := h
      rw [hE]
      exact j_iret o dX7_target_25 ⟨_, rfl, rfl, rfl, h⟩

abbrev rm_X7_node : Room := { frames := 5, cells := 0, slots := 0, locals := 105 }
def w_X7_node (P : jP) (a1 : Int32) (M : jM) (Q : Int32 → jM → Prop) : Prop :=
  w_X10_next P M (fun r1 M2 =>
  w_X7_isLetter P r1 M2 (fun r4 =>
  (¬ r4 = 0 → (
   (((upM M2 3 2 ((M2 3 2) + 1)) 4 9).toNatClampNeg) ≠ 0 ∧
   cFm P (((upM M2 3 2 ((M2 3 2) + 1)) 4 9).toNatClampNeg) = true ∧
   jin P ((((upM M2 3 2 ((M2 3 2) + 1)) 4 9).toNatClampNeg) + 1) a1 ∧
   ∀ M11 : jM, M11 = upM (upM M2 3 2 ((M2 3 2) + 1)) ((((upM M2 3 2 ((M2 3 2) + 1)) 4 9).toNatClampNeg) + 1) a1.toNatClampNeg (r1 - 97) →
   w_X10_needs P 62 M11 (fun r12 M13 =>
   (¬ r12 = 0 → (
    ((M13 4 9).toNatClampNeg) ≠ 0 ∧
    cFm P ((M13 4 9).toNatClampNeg) = true ∧
    w_X7_target P a1 M13 (fun r18 M19 =>
    jin P (((M13 4 9).toNatClampNeg) + 2) a1 ∧
    ∀ M22 : jM, M22 = upM M19 (((M13 4 9).toNatClampNeg) + 2) a1.toNatClampNeg r18 →
    ((M22 4 9).toNatClampNeg) ≠ 0 ∧
    cFm P ((M22 4 9).toNatClampNeg) = true ∧
    jin P (((M22 4 9).toNatClampNeg) + 2) a1 ∧
    ((M22 (((M22 4 9).toNatClampNeg) + 2) a1.toNatClampNeg) = (-1) → (
     Q 0 M22
    )) ∧ (¬ (M22 (((M22 4 9).toNatClampNeg) + 2) a1.toNatClampNeg) = (-1) → (
     w_X10_needs P 44 M22 (fun r27 M28 =>
     (¬ r27 = 0 → (
      ((M28 4 9).toNatClampNeg) ≠ 0 ∧
      cFm P ((M28 4 9).toNatClampNeg) = true ∧
      w_X7_target P a1 M28 (fun r33 M34 =>
      jin P (((M28 4 9).toNatClampNeg) + 3) a1 ∧
      ∀ M37 : jM, M37 = upM M34 (((M28 4 9).toNatClampNeg) + 3) a1.toNatClampNeg r33 →
      ((M37 4 9).toNatClampNeg) ≠ 0 ∧
      cFm P ((M37 4 9).toNatClampNeg) = true ∧
      jin P (((M37 4 9).toNatClampNeg) + 3) a1 ∧
      ((M37 (((M37 4 9).toNatClampNeg) + 3) a1.toNatClampNeg) = (-1) → (
       Q 0 M37
      )) ∧ (¬ (M37 (((M37 4 9).toNatClampNeg) + 3) a1.toNatClampNeg) = (-1) → (
       Q 1 M37
      )))
     )) ∧ (r27 = 0 → (
      Q 0 M28
     )))
    )))
   )) ∧ (r12 = 0 → (
    Q 0 M13
   )))
  )) ∧ (r4 = 0 → (
   w_X10_miss P (M2 3 2) M2 (fun r42 M43 =>
   jb r42 ∧
   Q r42 M43)
  ))))
set_option maxRecDepth 20000 in
theorem c_X7_node (l : Launch) (P : jP) (a1 : Int32) (M : jM) (N : jN) (Q : Int32 → jM → Prop) (h : w_X7_node P a1 M Q) : jC l yX7_node cX7_node 3 (some .boolean) rm_X7_node LC [.ref (P.1 4), .int a1] P M N (jqi P (fun r M' N' => N = N' ∧ Q r M' )) := by
  refine jC_of (by decide +kernel) [(0, .ref (P.1 4)), (1, .int a1)] (Nat.le_of_ble_eq_true rfl) rfl (fun X o => ?_)
  obtain ⟨E, hE⟩ : ∃ E, E = jE X rm_X7_node (jqi P (fun r M' N' => N = N' ∧ Q r M' )) := ⟨_, rfl⟩
  rw [← hE]
  unfold w_X7_node at h
  refine j_aload_n o dX7_node_0 rfl ?_
  refine j_getf o (g := 4) (slot := 0) (ci := 7) (v := .ref (P.1 3)) rfl jin_X7 (by decide) rfl jf_X7_34 (fun _ => rfl) rfl dX7_node_1 ?_
  refine j_callVi (g := 3) (ci := 10) o (c_X10_next l P M N _ h) dX7_node_4 jc_X7_60 jn_X10_next rfl rfl rfl (fun _ => rfl) rfl rfl (fun r1 M2 Nz3 h => ?_)
  obtain ⟨rfl, h⟩ := h
  refine j_istore_n o [(2, .int r1), (0, .ref (P.1 4)), (1, .int a1)] dX7_node_7 (by decide) rfl ?_
  refine j_aload_n o dX7_node_8 rfl ?_
  refine j_iload_n o dX7_node_9 rfl ?_
  refine j_callVi (g := 4) (ci := 7) o (c_X7_isLetter l P r1 M2 N _ h) dX7_node_10 jc_X7_108 jn_X7_isLetter rfl rfl rfl (fun _ => rfl) rfl rfl (fun r4 Mz5 Nz6 h => ?_)
  obtain ⟨rfl, rfl, h⟩ := h
  refine j_if_ne o (tgt := 31) dX7_node_13 (by decide) (fun c7 => ?_) (fun c7 => ?_)
  · replace h := h.1 c7
    refine j_aload_n o dX7_node_31 rfl ?_
    refine j_getf o (g := 4) (slot := 0) (ci := 7) (v := .ref (P.1 3)) rfl jin_X7 (by decide) rfl jf_X7_34 (fun _ => rfl) rfl dX7_node_32 ?_
    refine j_dup o dX7_node_35 rfl ?_
    refine j_getf o (g := 3) (slot := 2) (ci := 10) (v := .int (M2 3 2)) rfl jin_X10 (by decide) rfl jf_X7_64 (fun _ => rfl) rfl dX7_node_36 ?_
    refine j_iconst o (v := 1) dX7_node_39 rfl ?_
    refine j_iadd o dX7_node_40 ?_
    refine j_putf o (M1 := upM M2 3 2 ((M2 3 2) + 1)) (N1 := N) (g := 3) (slot := 2) (ci := 10) (ty := .int) rfl jin_X10 tyX10_ok nmX10 (by decide) rfl rfl jf_X7_64 (by decide +kernel) rfl rfl (Nat.le_of_ble_eq_true rfl) (fun _ => rfl) (fun _ => rfl) (fun _ hj => upM_ne _ _ _ hj) (fun _ _ => rfl) dX7_node_41 ?_
    refine j_aload_n o dX7_node_44 rfl ?_
    refine j_getf o (g := 4) (slot := 9) (ci := 7) (v := jrf P (((upM M2 3 2 ((M2 3 2) + 1)) 4 9).toNatClampNeg)) rfl jin_X7 (by decide) rfl jf_X7_30 (fun _ => rfl) rfl dX7_node_45 ?_
    obtain ⟨hq8, h⟩ := h
    rw [jrf_n P hq8]
    obtain ⟨hb9, h⟩ := h
    refine j_getf o (g := ((upM M2 3 2 ((M2 3 2) + 1)) 4 9).toNatClampNeg) (slot := 1) (ci := 2) (v := .ref (P.1 ((((upM M2 3 2 ((M2 3 2) + 1)) 4 9).toNatClampNeg) + 1))) rfl jin_X2 (by decide) rfl jf_X7_118 (fun tA => LC_fm hb9 tA _ _) rfl dX7_node_48 ?_
    refine j_iload_n o dX7_node_51 rfl ?_
    refine j_iload_n o dX7_node_52 rfl ?_
    refine j_bipush o (v := 97) dX7_node_53 rfl ?_
    refine j_isub o dX7_node_55 ?_
    obtain ⟨hb10, h⟩ := h
    obtain ⟨nnhb10, hchb10, hihb10⟩ := hb10
    refine j_iast o (g := (((upM M2 3 2 ((M2 3 2) + 1)) 4 9).toNatClampNeg) + 1) (LC_ia hchb10) hihb10 dX7_node_56 ?_
    refine j_nameM (fun M11 hM11 => ?_)
    replace h := h M11 hM11
    refine j_aload_n o dX7_node_57 rfl ?_
    refine j_getf o (g := 4) (slot := 0) (ci := 7) (v := .ref (P.1 3)) rfl jin_X7 (by decide) rfl jf_X7_34 (fun _ => rfl) rfl dX7_node_58 ?_
    refine j_bipush o (v := 62) dX7_node_61 rfl ?_
    refine j_callVi (g := 3) (ci := 10) o (c_X10_needs l P 62 M11 N _ h) dX7_node_63 jc_X7_85 jn_X10_needs rfl rfl rfl (fun _ => rfl) rfl rfl (fun r12 M13 Nz14 h => ?_)
    obtain ⟨rfl, h⟩ := h
    refine j_if_ne o (tgt := 71) dX7_node_66 (by decide) (fun c15 => ?_) (fun c15 => ?_)
    · replace h := h.1 c15
      refine j_aload_n o dX7_node_71 rfl ?_
      refine j_getf o (g := 4) (slot := 9) (ci := 7) (v := jrf P ((M13 4 9).toNatClampNeg)) rfl jin_X7 (by decide) rfl jf_X7_30 (fun _ => rfl) rfl dX7_node_72 ?_
      obtain ⟨hq16, h⟩ := h
      rw [jrf_n P hq16]
      obtain ⟨hb17, h⟩ := h
      refine j_getf o (g := (M13 4 9).toNatClampNeg) (slot := 2) (ci := 2) (v := .ref (P.1 (((M13 4 9).toNatClampNeg) + 2))) rfl jin_X2 (by decide) rfl jf_X7_120 (fun tA => LC_fm hb17 tA _ _) rfl dX7_node_75 ?_
      refine j_iload_n o dX7_node_78 rfl ?_
      refine j_aload_n o dX7_node_79 rfl ?_
      refine j_iload_n o dX7_node_80 rfl ?_
      refine j_callVi (g := 4) (ci := 7) o (c_X7_target l P a1 M13 N _ h) dX7_node_81 jc_X7_123 jn_X7_target rfl rfl rfl (fun _ => rfl) rfl rfl (fun r18 M19 Nz20 h => ?_)
      obtain ⟨rfl, h⟩ := h
      obtain ⟨hb21, h⟩ := h
      obtain ⟨nnhb21, hchb21, hihb21⟩ := hb21
      refine j_iast o (g := ((M13 4 9).toNatClampNeg) + 2) (LC_ia hchb21) hihb21 dX7_node_84 ?_
      refine j_nameM (fun M22 hM22 => ?_)
      replace h := h M22 hM22
      refine j_aload_n o dX7_node_85 rfl ?_
      refine j_getf o (g := 4) (slot := 9) (ci := 7) (v := jrf P ((M22 4 9).toNatClampNeg)) rfl jin_X7 (by decide) rfl jf_X7_30 (fun _ => rfl) rfl dX7_node_86 ?_
      obtain ⟨hq23, h⟩ := h
      rw [jrf_n P hq23]
      obtain ⟨hb24, h⟩ := h
      refine j_getf o (g := (M22 4 9).toNatClampNeg) (slot := 2) (ci := 2) (v := .ref (P.1 (((M22 4 9).toNatClampNeg) + 2))) rfl jin_X2 (by decide) rfl jf_X7_120 (fun tA => LC_fm hb24 tA _ _) rfl dX7_node_89 ?_
      refine j_iload_n o dX7_node_92 rfl ?_
      obtain ⟨hb25, h⟩ := h
      obtain ⟨nnhb25, hchb25, hihb25⟩ := hb25
      refine j_iald o (g := ((M22 4 9).toNatClampNeg) + 2) (fun tA => LC_ia hchb25 tA _ _) hihb25 dX7_node_93 ?_
      refine j_iconst o (v := (-1)) dX7_node_94 rfl ?_
      refine j_icmp_eq o (tgt := 110) dX7_node_95 (by decide) (fun c26 => ?_) (fun c26 => ?_)
      · replace h := h.1 c26
        refine j_iconst o (v := 0) dX7_node_110 rfl ?_
        rw [hE]
        exact j_zret o rfl dX7_node_111 ⟨_, rfl, rfl, rfl, h⟩
      · replace h := h.2 c26
        refine j_aload_n o dX7_node_98 rfl ?_
        refine j_getf o (g := 4) (slot := 0) (ci := 7) (v := .ref (P.1 3)) rfl jin_X7 (by decide) rfl jf_X7_34 (fun _ => rfl) rfl dX7_node_99 ?_
        refine j_bipush o (v := 44) dX7_node_102 rfl ?_
        refine j_callVi (g := 3) (ci := 10) o (c_X10_needs l P 44 M22 N _ h) dX7_node_104 jc_X7_85 jn_X10_needs rfl rfl rfl (fun _ => rfl) rfl rfl (fun r27 M28 Nz29 h => ?_)
        obtain ⟨rfl, h⟩ := h
        refine j_if_ne o (tgt := 112) dX7_node_107 (by decide) (fun c30 => ?_) (fun c30 => ?_)
        · replace h := h.1 c30
          refine j_aload_n o dX7_node_112 rfl ?_
          refine j_getf o (g := 4) (slot := 9) (ci := 7) (v := jrf P ((M28 4 9).toNatClampNeg)) rfl jin_X7 (by decide) rfl jf_X7_30 (fun _ => rfl) rfl dX7_node_113 ?_
          obtain ⟨hq31, h⟩ := h
          rw [jrf_n P hq31]
          obtain ⟨hb32, h⟩ := h
          refine j_getf o (g := (M28 4 9).toNatClampNeg) (slot := 3) (ci := 2) (v := .ref (P.1 (((M28 4 9).toNatClampNeg) + 3))) rfl jin_X2 (by decide) rfl jf_X7_127 (fun tA => LC_fm hb32 tA _ _) rfl dX7_node_116 ?_
          refine j_iload_n o dX7_node_119 rfl ?_
          refine j_aload_n o dX7_node_120 rfl ?_
          refine j_iload_n o dX7_node_121 rfl ?_
          refine j_callVi (g := 4) (ci := 7) o (c_X7_target l P a1 M28 N _ h) dX7_node_122 jc_X7_123 jn_X7_target rfl rfl rfl (fun _ => rfl) rfl rfl (fun r33 M34 Nz35 h => ?_)
          obtain ⟨rfl, h⟩ := h
          obtain ⟨hb36, h⟩ := h
          obtain ⟨nnhb36, hchb36, hihb36⟩ := hb36
          refine j_iast o (g := ((M28 4 9).toNatClampNeg) + 3) (LC_ia hchb36) hihb36 dX7_node_125 ?_
          refine j_nameM (fun M37 hM37 => ?_)
          replace h := h M37 hM37
          refine j_aload_n o dX7_node_126 rfl ?_
          refine j_getf o (g := 4) (slot := 9) (ci := 7) (v := jrf P ((M37 4 9).toNatClampNeg)) rfl jin_X7 (by decide) rfl jf_X7_30 (fun _ => rfl) rfl dX7_node_127 ?_
          obtain ⟨hq38, h⟩ := h
          rw [jrf_n P hq38]
          obtain ⟨hb39, h⟩ := h
          refine j_getf o (g := (M37 4 9).toNatClampNeg) (slot := 3) (ci := 2) (v := .ref (P.1 (((M37 4 9).toNatClampNeg) + 3))) rfl jin_X2 (by decide) rfl jf_X7_127 (fun tA => LC_fm hb39 tA _ _) rfl dX7_node_130 ?_
          refine j_iload_n o dX7_node_133 rfl ?_
          obtain ⟨hb40, h⟩ := h
          obtain ⟨nnhb40, hchb40, hihb40⟩ := hb40
          refine j_iald o (g := ((M37 4 9).toNatClampNeg) + 3) (fun tA => LC_ia hchb40 tA _ _) hihb40 dX7_node_134 ?_
          refine j_iconst o (v := (-1)) dX7_node_135 rfl ?_
          refine j_icmp_eq o (tgt := 143) dX7_node_136 (by decide) (fun c41 => ?_) (fun c41 => ?_)
          · replace h := h.1 c41
            refine j_iconst o (v := 0) dX7_node_143 rfl ?_
            rw [hE]
            exact j_zret o rfl dX7_node_144 ⟨_, rfl, rfl, rfl, h⟩
          · replace h := h.2 c41
            refine j_iconst o (v := 1) dX7_node_139 rfl ?_
            refine j_goto o (tgt := 144) dX7_node_140 (by decide) ?_
            rw [hE]
            exact j_zret o rfl dX7_node_144 ⟨_, rfl, rfl, rfl, h⟩
        · replace h := h.2 c30
          refine j_iconst o (v := 0) dX7_node_110 rfl ?_
          rw [hE]
          exact j_zret o rfl dX7_node_111 ⟨_, rfl, rfl, rfl, h⟩
    · replace h := h.2 c15
      refine j_iconst o (v := 0) dX7_node_69 rfl ?_
      rw [hE]
      exact j_zret o rfl dX7_node_70 ⟨_, rfl, rfl, rfl, h⟩
  · replace h := h.2 c7
    refine j_aload_n o dX7_node_16 rfl ?_
    refine j_getf o (g := 4) (slot := 0) (ci := 7) (v := .ref (P.1 3)) rfl jin_X7 (by decide) rfl jf_X7_34 (fun _ => rfl) rfl dX7_node_17 ?_
    refine j_aload_n o dX7_node_20 rfl ?_
    refine j_getf o (g := 4) (slot := 0) (ci := 7) (v := .ref (P.1 3)) rfl jin_X7 (by decide) rfl jf_X7_34 (fun _ => rfl) rfl dX7_node_21 ?_
    refine j_getf o (g := 3) (slot := 2) (ci := 10) (v := .int (M2 3 2)) rfl jin_X10 (by decide) rfl jf_X7_64 (fun _ => rfl) rfl dX7_node_24 ?_
    refine j_callVi (g := 3) (ci := 10) o (c_X10_miss l P (M2 3 2) M2 N _ h) dX7_node_27 jc_X7_67 jn_X10_miss rfl rfl rfl (fun _ => rfl) rfl rfl (fun r42 M43 Nz44 h => ?_)
    obtain ⟨rfl, h⟩ := h
    obtain ⟨hz45, h⟩ := h
    rw [hE]
    exact j_zret o hz45.1 dX7_node_30 ⟨_, rfl, rfl, rfl, h⟩

abbrev rm_X7_readAs : Room := { frames := 46, cells := 0, slots := 0, locals := 1049 }
def w_X7_readAs (P : jP) (a1 : Int32) (M : jM) (Q : Int32 → jM → Prop) : Prop :=
  w_X10_rewind P M (fun M1 =>
  (¬ a1 = 1 → (
   ∀ R88 : Int32 → Int32 → jM → Prop, (∀ (x4 : Int32) (x5 : Int32) (M6 : jM), (
    ∀ R141 : Prop, ((
     ∀ R183 : jM → Prop, (∀ (M7 : jM), (
      Q (M7 3 3) M7
     ) → R183 M7) →
     (¬ (M6 3 3) = (-1) → (
      R183 M6
     )) ∧ ((M6 3 3) = (-1) → (
      (¬ a1 = 2 → (
       R183 M6
      )) ∧ (a1 = 2 → (
       ((M6 4 10) < (M6 4 4) → (
        R183 M6
       )) ∧ (¬ (M6 4 10) < (M6 4 4) → (
        w_X10_miss P (M6 3 1) M6 (fun r11 M12 =>
        R183 M12)
       ))
      ))
     ))
    ) → R141) →
    (12 ≤ x5 → (
     R141
    )) ∧ (¬ 12 ≤ x5 → (
     (x4 = 0 → (
      R141
     )) ∧ (¬ x4 = 0 → (
      ∀ R134 : Int32 → jM → Prop, (∀ (x16 : Int32) (M17 : jM), (
       R88 x16 (x5 + 1) M17
      ) → R134 x16 M17) →
      ∀ R121 : jM → Prop, (∀ (M18 : jM), (
       w_X7_goesOn P x5 M18 (fun r19 M20 =>
       (r19 = 0 → (
        R134 0 M20
       )) ∧ (¬ r19 = 0 → (
        R134 1 M20
       )))
      ) → R121 M18) →
      (¬ a1 = 0 → (
       w_X7_node P x5 M6 (fun r24 M25 =>
       (r24 = 0 → (
        R134 0 M25
       )) ∧ (¬ r24 = 0 → (
        R121 M25
       )))
      )) ∧ (a1 = 0 → (
       w_X7_clause P x5 M6 (fun r28 M29 =>
       (r28 = 0 → (
        R134 0 M29
       )) ∧ (¬ r28 = 0 → (
        R121 M29
       )))
      ))
     ))
    ))
   ) → R88 x4 x5 M6) →
   R88 1 0 (upM (upM (upM M1 4 3 0) 4 4 0) 4 10 0)
  )) ∧ (a1 = 1 → (
   w_X7_condition P 0 (upM (upM (upM M1 4 3 0) 4 4 0) 4 10 0) (fun r32 M33 =>
   ∀ R67 : Int32 → jM → Prop, (∀ (x35 : Int32) (M36 : jM), (
    (x35 = 0 → (
     Q (M36 3 3) M36
    )) ∧ (¬ x35 = 0 → (
     Q (-1) M36
    ))
   ) → R67 x35 M36) →
   (r32 = 0 → (
    R67 0 M33
   )) ∧ (¬ r32 = 0 → (
    w_X10_next P M33 (fun r39 M40 =>
    (r39 = 0 → (
     R67 1 M40
    )) ∧ (¬ r39 = 0 → (
     w_X10_miss P (M40 3 2) M40 (fun r43 M44 =>
     (r43 = 0 → (
      R67 0 M44
     )) ∧ (¬ r43 = 0 → (
      R67 1 M44
     )))
    )))
   )))
  )))
set_option maxRecDepth 20000 in
theorem c_X7_readAs (l : Launch) (P : jP) (a1 : Int32) (M : jM) (N : jN) (Q : Int32 → jM → Prop) (h : w_X7_readAs P a1 M Q) : jC l yX7_readAs cX7_readAs 4 (some .int) rm_X7_readAs LC [.ref (P.1 4), .int a1] P M N (jqi P (fun r M' N' => N = N' ∧ Q r M' )) := by
  refine jC_of (by decide +kernel) [(0, .ref (P.1 4)), (1, .int a1)] (Nat.le_of_ble_eq_true rfl) rfl (fun X o => ?_)
  obtain ⟨E, hE⟩ : ∃ E, E = jE X rm_X7_readAs (jqi P (fun r M' N' => N = N' ∧ Q r M' )) := ⟨_, rfl⟩
  rw [← hE]
  unfold w_X7_readAs at h
  refine j_aload_n o dX7_readAs_0 rfl ?_
  refine j_getf o (g := 4) (slot := 0) (ci := 7) (v := .ref (P.1 3)) rfl jin_X7 (by decide) rfl jf_X7_34 (fun _ => rfl) rfl dX7_readAs_1 ?_
  refine j_callVv (g := 3) (ci := 10) o (c_X10_rewind l P M N _ h) dX7_readAs_4 jc_X7_42 jn_X10_rewind rfl rfl rfl (fun _ => rfl) rfl rfl (fun M1 Nz2 h => ?_)
  obtain ⟨rfl, h⟩ := h
  refine j_aload_n o dX7_readAs_7 rfl ?_
  refine j_iconst o (v := 0) dX7_readAs_8 rfl ?_
  refine j_putf o (M1 := upM M1 4 3 0) (N1 := N) (g := 4) (slot := 3) (ci := 7) (ty := .int) rfl jin_X7 tyX7_ok nmX7 (by decide) rfl rfl jf_X7_47 (by decide +kernel) rfl rfl (Nat.le_of_ble_eq_true rfl) (fun _ => rfl) (fun _ => rfl) (fun _ hj => upM_ne _ _ _ hj) (fun _ _ => rfl) dX7_readAs_9 ?_
  refine j_aload_n o dX7_readAs_12 rfl ?_
  refine j_iconst o (v := 0) dX7_readAs_13 rfl ?_
  refine j_putf o (M1 := upM (upM M1 4 3 0) 4 4 0) (N1 := N) (g := 4) (slot := 4) (ci := 7) (ty := .int) rfl jin_X7 tyX7_ok nmX7 (by decide) rfl rfl jf_X7_50 (by decide +kernel) rfl rfl (Nat.le_of_ble_eq_true rfl) (fun _ => rfl) (fun _ => rfl) (fun _ hj => upM_ne _ _ _ hj) (fun _ _ => rfl) dX7_readAs_14 ?_
  refine j_aload_n o dX7_readAs_17 rfl ?_
  refine j_iconst o (v := 0) dX7_readAs_18 rfl ?_
  refine j_putf o (M1 := upM (upM (upM M1 4 3 0) 4 4 0) 4 10 0) (N1 := N) (g := 4) (slot := 10) (ci := 7) (ty := .int) rfl jin_X7 tyX7_ok nmX7 (by decide) rfl rfl jf_X7_53 (by decide +kernel) rfl rfl (Nat.le_of_ble_eq_true rfl) (fun _ => rfl) (fun _ => rfl) (fun _ hj => upM_ne _ _ _ hj) (fun _ _ => rfl) dX7_readAs_19 ?_
  refine j_iload_n o dX7_readAs_22 rfl ?_
  refine j_iconst o (v := 1) dX7_readAs_23 rfl ?_
  refine j_icmp_ne o (tgt := 84) dX7_readAs_24 (by decide) (fun c3 => ?_) (fun c3 => ?_)
  · replace h := h.1 c3
    refine j_iconst o (v := 1) dX7_readAs_84 rfl ?_
    refine j_istore_n o [(2, .int 1), (0, .ref (P.1 4)), (1, .int a1)] dX7_readAs_85 (by decide) rfl ?_
    refine j_iconst o (v := 0) dX7_readAs_86 rfl ?_
    refine j_istore_n o [(3, .int 0), (2, .int 1), (0, .ref (P.1 4)), (1, .int a1)] dX7_readAs_87 (by decide) rfl ?_
    replace h := h (fun (x4 : Int32) (x5 : Int32) (M6 : jM) => J X P M6 N 0 0 E 4 88 [(0, .ref (P.1 4)), (1, .int a1), (2, .int x4), (3, .int x5)] []) (by
      intro x4 x5 M6 h
      refine j_iload_n o dX7_readAs_88 rfl ?_
      refine j_bipush o (v := 12) dX7_readAs_89 rfl ?_
      replace h := h (J X P M6 N 0 0 E 4 141 [(0, .ref (P.1 4)), (1, .int a1)] []) (by
        intro h
        refine j_aload_n o dX7_readAs_141 rfl ?_
        refine j_getf o (g := 4) (slot := 0) (ci := 7) (v := .ref (P.1 3)) rfl jin_X7 (by decide) rfl jf_X7_34 (fun _ => rfl) rfl dX7_readAs_142 ?_
        refine j_getf o (g := 3) (slot := 3) (ci := 10) (v := .int (M6 3 3)) rfl jin_X10 (by decide) rfl jf_X7_70 (fun _ => rfl) rfl dX7_readAs_145 ?_
        refine j_iconst o (v := (-1)) dX7_readAs_148 rfl ?_
        replace h := h (fun (M7 : jM) => J X P M7 N 0 0 E 4 183 [(0, .ref (P.1 4))] []) (by
          intro M7 h
          refine j_aload_n o dX7_readAs_183 rfl ?_
          refine j_getf o (g := 4) (slot := 0) (ci := 7) (v := .ref (P.1 3)) rfl jin_X7 (by decide) rfl jf_X7_34 (fun _ => rfl) rfl dX7_readAs_184 ?_
          refine j_getf o (g := 3) (slot := 3) (ci := 10) (v := .int (M7 3 3)) rfl jin_X10 (by decide) rfl jf_X7_70 (fun _ => rfl) rfl dX7_readAs_187 ?_
          rw [hE]
          exact j_iret o dX7_readAs_190 ⟨_, rfl, rfl, rfl, h⟩)
        refine j_icmp_ne o (tgt := 183) dX7_readAs_149 (by decide) (fun c8 => ?_) (fun c8 => ?_)
        · replace h := h.1 c8
          exact j_pick [0] rfl h
        · replace h := h.2 c8
          refine j_iload_n o dX7_readAs_152 rfl ?_
          refine j_iconst o (v := 2) dX7_readAs_153 rfl ?_
          refine j_icmp_ne o (tgt := 183) dX7_readAs_154 (by decide) (fun c9 => ?_) (fun c9 => ?_)
          · replace h := h.1 c9
            exact j_pick [0] rfl h
          · replace h := h.2 c9
            refine j_aload_n o dX7_readAs_157 rfl ?_
            refine j_getf o (g := 4) (slot := 10) (ci := 7) (v := .int (M6 4 10)) rfl jin_X7 (by decide) rfl jf_X7_53 (fun _ => rfl) rfl dX7_readAs_158 ?_
            refine j_aload_n o dX7_readAs_161 rfl ?_
            refine j_getf o (g := 4) (slot := 4) (ci := 7) (v := .int (M6 4 4)) rfl jin_X7 (by decide) rfl jf_X7_50 (fun _ => rfl) rfl dX7_readAs_162 ?_
            refine j_icmp_lt o (tgt := 183) dX7_readAs_165 (by decide) (fun c10 => ?_) (fun c10 => ?_)
            · replace h := h.1 c10
              exact j_pick [0] rfl h
            · replace h := h.2 c10
              refine j_aload_n o dX7_readAs_168 rfl ?_
              refine j_getf o (g := 4) (slot := 0) (ci := 7) (v := .ref (P.1 3)) rfl jin_X7 (by decide) rfl jf_X7_34 (fun _ => rfl) rfl dX7_readAs_169 ?_
              refine j_aload_n o dX7_readAs_172 rfl ?_
              refine j_getf o (g := 4) (slot := 0) (ci := 7) (v := .ref (P.1 3)) rfl jin_X7 (by decide) rfl jf_X7_34 (fun _ => rfl) rfl dX7_readAs_173 ?_
              refine j_getf o (g := 3) (slot := 1) (ci := 10) (v := .int (M6 3 1)) rfl jin_X10 (by decide) rfl jf_X7_82 (fun _ => rfl) rfl dX7_readAs_176 ?_
              refine j_callVi (g := 3) (ci := 10) o (c_X10_miss l P (M6 3 1) M6 N _ h) dX7_readAs_179 jc_X7_67 jn_X10_miss rfl rfl rfl (fun _ => rfl) rfl rfl (fun r11 M12 Nz13 h => ?_)
              obtain ⟨rfl, h⟩ := h
              refine j_pop o dX7_readAs_182 rfl ?_
              exact j_pick [0] rfl h)
      refine j_icmp_ge o (tgt := 141) dX7_readAs_91 (by decide) (fun c14 => ?_) (fun c14 => ?_)
      · replace h := h.1 c14
        exact j_pick [0, 1] rfl h
      · replace h := h.2 c14
        refine j_iload_n o dX7_readAs_94 rfl ?_
        refine j_if_eq o (tgt := 141) dX7_readAs_95 (by decide) (fun c15 => ?_) (fun c15 => ?_)
        · replace h := h.1 c15
          exact j_pick [0, 1] rfl h
        · replace h := h.2 c15
          refine j_iload_n o dX7_readAs_98 rfl ?_
          replace h := h (fun (x16 : Int32) (M17 : jM) => J X P M17 N 0 0 E 4 134 [(0, .ref (P.1 4)), (1, .int a1), (3, .int x5)] [.int x16]) (by
            intro x16 M17 h
            refine j_istore_n o [(2, .int x16), (0, .ref (P.1 4)), (1, .int a1), (3, .int x5)] dX7_readAs_134 (by decide) rfl ?_
            refine j_iinc o (v := x5 + 1) [(3, .int (x5 + 1)), (2, .int x16), (0, .ref (P.1 4)), (1, .int a1)] dX7_readAs_135 rfl rfl (by decide) rfl ?_
            refine j_goto o (tgt := 88) dX7_readAs_138 (by decide) ?_
            exact j_pick [2, 3, 1, 0] rfl h)
          replace h := h (fun (M18 : jM) => J X P M18 N 0 0 E 4 121 [(0, .ref (P.1 4)), (1, .int a1), (3, .int x5)] []) (by
            intro M18 h
            refine j_aload_n o dX7_readAs_121 rfl ?_
            refine j_iload_n o dX7_readAs_122 rfl ?_
            refine j_callVi (g := 4) (ci := 7) o (c_X7_goesOn l P x5 M18 N _ h) dX7_readAs_123 jc_X7_79 jn_X7_goesOn rfl rfl rfl (fun _ => rfl) rfl rfl (fun r19 M20 Nz21 h => ?_)
            obtain ⟨rfl, h⟩ := h
            refine j_if_eq o (tgt := 133) dX7_readAs_126 (by decide) (fun c22 => ?_) (fun c22 => ?_)
            · replace h := h.1 c22
              refine j_iconst o (v := 0) dX7_readAs_133 rfl ?_
              exact j_pick [0, 1, 2] rfl h
            · replace h := h.2 c22
              refine j_iconst o (v := 1) dX7_readAs_129 rfl ?_
              refine j_goto o (tgt := 134) dX7_readAs_130 (by decide) ?_
              exact j_pick [0, 1, 2] rfl h)
          refine j_if_ne o (tgt := 113) dX7_readAs_99 (by decide) (fun c23 => ?_) (fun c23 => ?_)
          · replace h := h.1 c23
            refine j_aload_n o dX7_readAs_113 rfl ?_
            refine j_iload_n o dX7_readAs_114 rfl ?_
            refine j_callVi (g := 4) (ci := 7) o (c_X7_node l P x5 M6 N _ h) dX7_readAs_115 jc_X7_76 jn_X7_node rfl rfl rfl (fun _ => rfl) rfl rfl (fun r24 M25 Nz26 h => ?_)
            obtain ⟨rfl, h⟩ := h
            refine j_if_eq o (tgt := 133) dX7_readAs_118 (by decide) (fun c27 => ?_) (fun c27 => ?_)
            · replace h := h.1 c27
              refine j_iconst o (v := 0) dX7_readAs_133 rfl ?_
              exact j_pick [0, 1, 3] rfl h
            · replace h := h.2 c27
              exact j_pick [0, 1, 3] rfl h
          · replace h := h.2 c23
            refine j_aload_n o dX7_readAs_102 rfl ?_
            refine j_iload_n o dX7_readAs_103 rfl ?_
            refine j_callVi (g := 4) (ci := 7) o (c_X7_clause l P x5 M6 N _ h) dX7_readAs_104 jc_X7_73 jn_X7_clause rfl rfl rfl (fun _ => rfl) rfl rfl (fun r28 M29 Nz30 h => ?_)
            obtain ⟨rfl, h⟩ := h
            refine j_if_eq o (tgt := 133) dX7_readAs_107 (by decide) (fun c31 => ?_) (fun c31 => ?_)
            · replace h := h.1 c31
              refine j_iconst o (v := 0) dX7_readAs_133 rfl ?_
              exact j_pick [0, 1, 3] rfl h
            · replace h := h.2 c31
              refine j_goto o (tgt := 121) dX7_readAs_110 (by decide) ?_
              exact j_pick [0, 1, 3] rfl h)
    exact j_pick [2, 3, 1, 0] rfl h
  · replace h := h.2 c3
    refine j_aload_n o dX7_readAs_27 rfl ?_
    refine j_iconst o (v := 0) dX7_readAs_28 rfl ?_
    refine j_callVi (g := 4) (ci := 7) o (c_X7_condition l P 0 (upM (upM (upM M1 4 3 0) 4 4 0) 4 10 0) N _ h) dX7_readAs_29 jc_X7_56 jn_X7_condition rfl rfl rfl (fun _ => rfl) rfl rfl (fun r32 M33 Nz34 h => ?_)
    obtain ⟨rfl, h⟩ := h
    replace h := h (fun (x35 : Int32) (M36 : jM) => J X P M36 N 0 0 E 4 67 [(0, .ref (P.1 4))] [.int x35]) (by
      intro x35 M36 h
      refine j_istore_n o [(2, .int x35), (0, .ref (P.1 4))] dX7_readAs_67 (by decide) rfl ?_
      refine j_iload_n o dX7_readAs_68 rfl ?_
      refine j_if_eq o (tgt := 76) dX7_readAs_69 (by decide) (fun c37 => ?_) (fun c37 => ?_)
      · replace h := h.1 c37
        refine j_aload_n o dX7_readAs_76 rfl ?_
        refine j_getf o (g := 4) (slot := 0) (ci := 7) (v := .ref (P.1 3)) rfl jin_X7 (by decide) rfl jf_X7_34 (fun _ => rfl) rfl dX7_readAs_77 ?_
        refine j_getf o (g := 3) (slot := 3) (ci := 10) (v := .int (M36 3 3)) rfl jin_X10 (by decide) rfl jf_X7_70 (fun _ => rfl) rfl dX7_readAs_80 ?_
        rw [hE]
        exact j_iret o dX7_readAs_83 ⟨_, rfl, rfl, rfl, h⟩
      · replace h := h.2 c37
        refine j_iconst o (v := (-1)) dX7_readAs_72 rfl ?_
        refine j_goto o (tgt := 83) dX7_readAs_73 (by decide) ?_
        rw [hE]
        exact j_iret o dX7_readAs_83 ⟨_, rfl, rfl, rfl, h⟩)
    refine j_if_eq o (tgt := 66) dX7_readAs_32 (by decide) (fun c38 => ?_) (fun c38 => ?_)
    · replace h := h.1 c38
      refine j_iconst o (v := 0) dX7_readAs_66 rfl ?_
      exact j_pick [0] rfl h
    · replace h := h.2 c38
      refine j_aload_n o dX7_readAs_35 rfl ?_
      refine j_getf o (g := 4) (slot := 0) (ci := 7) (v := .ref (P.1 3)) rfl jin_X7 (by decide) rfl jf_X7_34 (fun _ => rfl) rfl dX7_readAs_36 ?_
      refine j_callVi (g := 3) (ci := 10) o (c_X10_next l P M33 N _ h) dX7_readAs_39 jc_X7_60 jn_X10_next rfl rfl rfl (fun _ => rfl) rfl rfl (fun r39 M40 Nz41 h => ?_)
      obtain ⟨rfl, h⟩ := h
      refine j_if_eq o (tgt := 62) dX7_readAs_42 (by decide) (fun c42 => ?_) (fun c42 => ?_)
      · replace h := h.1 c42
        refine j_iconst o (v := 1) dX7_readAs_62 rfl ?_
        refine j_goto o (tgt := 67) dX7_readAs_63 (by decide) ?_
        exact j_pick [0] rfl h
      · replace h := h.2 c42
        refine j_aload_n o dX7_readAs_45 rfl ?_
        refine j_getf o (g := 4) (slot := 0) (ci := 7) (v := .ref (P.1 3)) rfl jin_X7 (by decide) rfl jf_X7_34 (fun _ => rfl) rfl dX7_readAs_46 ?_
        refine j_aload_n o dX7_readAs_49 rfl ?_
        refine j_getf o (g := 4) (slot := 0) (ci := 7) (v := .ref (P.1 3)) rfl jin_X7 (by decide) rfl jf_X7_34 (fun _ => rfl) rfl dX7_readAs_50 ?_
        refine j_getf o (g := 3) (slot := 2) (ci := 10) (v := .int (M40 3 2)) rfl jin_X10 (by decide) rfl jf_X7_64 (fun _ => rfl) rfl dX7_readAs_53 ?_
        refine j_callVi (g := 3) (ci := 10) o (c_X10_miss l P (M40 3 2) M40 N _ h) dX7_readAs_56 jc_X7_67 jn_X10_miss rfl rfl rfl (fun _ => rfl) rfl rfl (fun r43 M44 Nz45 h => ?_)
        obtain ⟨rfl, h⟩ := h
        refine j_if_eq o (tgt := 66) dX7_readAs_59 (by decide) (fun c46 => ?_) (fun c46 => ?_)
        · replace h := h.1 c46
          refine j_iconst o (v := 0) dX7_readAs_66 rfl ?_
          exact j_pick [0] rfl h
        · replace h := h.2 c46
          refine j_iconst o (v := 1) dX7_readAs_62 rfl ?_
          refine j_goto o (tgt := 67) dX7_readAs_63 (by decide) ?_
          exact j_pick [0] rfl h

abbrev rm_X7_isSo : Room := { frames := 1, cells := 0, slots := 0, locals := 20 }
def w_X7_isSo (P : jP) (a1 : Int32) (a2 : Int32) (a3 : Int32) (M : jM) (Q : Int32 → Prop) : Prop :=
  ∀ R6 : Int64 → Int32 → Prop, (∀ (x1 : Int64) (x2 : Int32), (
   (a2 ≤ x2 → (
    ((lg_cmp (x1 &&& 1) 0) = 0 → (
     Q 0
    )) ∧ (¬ (lg_cmp (x1 &&& 1) 0) = 0 → (
     Q 1
    ))
   )) ∧ (¬ a2 ≤ x2 → (
    vp_in x2 (160) ∧
    vp_in x2 (160) ∧
    ∀ R137 : Int64 → Prop, (∀ (x7 : Int64), (
     R6 x7 (x2 + 1)
    ) → R137 x7) →
    (((M 18 x2.toNatClampNeg) &&& 3) = 1 → (
     R137 (x1 ^^^ 1)
    )) ∧
    (((M 18 x2.toNatClampNeg) &&& 3) = 2 → (
     R137 ((jlushr x1 1) &&& ((x1 &&& 1) ||| (-2)))
    )) ∧
    (((M 18 x2.toNatClampNeg) &&& 3) = 3 → (
     R137 ((jlushr x1 1) ||| (x1 &&& 1))
    )) ∧
    (¬ ((M 18 x2.toNatClampNeg) &&& 3) = 1 → ¬ ((M 18 x2.toNatClampNeg) &&& 3) = 2 → ¬ ((M 18 x2.toNatClampNeg) &&& 3) = 3 → (
     w_J6_bitCount_0f7a4 P ((((M 18 x2.toNatClampNeg) >>> (2 &&& 31)) &&& a3) &&& 511) (fun r11 =>
     ∀ R133 : Int64 → Int32 → Prop, (∀ (x14 : Int64) (x15 : Int32), (
      R137 (x14 ||| x15.toInt64)
     ) → R133 x14 x15) →
     (r11 < (((M 18 x2.toNatClampNeg) >>> (2 &&& 31)) >>> (9 &&& 31)) → (
      R133 (jlshl x1 1) 0
     )) ∧ (¬ r11 < (((M 18 x2.toNatClampNeg) >>> (2 &&& 31)) >>> (9 &&& 31)) → (
      R133 (jlshl x1 1) 1
     )))
    ))
   ))
  ) → R6 x1 x2) →
  R6 0 a1
set_option maxRecDepth 20000 in
theorem c_X7_isSo (l : Launch) (P : jP) (a1 : Int32) (a2 : Int32) (a3 : Int32) (M : jM) (N : jN) (Q : Int32 → Prop) (h : w_X7_isSo P a1 a2 a3 M Q) : jC l yX7_isSo cX7_isSo 11 (some .boolean) rm_X7_isSo LC [.ref (P.1 4), .int a1, .int a2, .int a3] P M N (jqi P (fun r M' N' => M = M' ∧ N = N' ∧ Q r )) := by
  refine jC_of (by decide +kernel) [(0, .ref (P.1 4)), (1, .int a1), (2, .int a2), (3, .int a3)] (Nat.le_of_ble_eq_true rfl) rfl (fun X o => ?_)
  obtain ⟨E, hE⟩ : ∃ E, E = jE X rm_X7_isSo (jqi P (fun r M' N' => M = M' ∧ N = N' ∧ Q r )) := ⟨_, rfl⟩
  rw [← hE]
  unfold w_X7_isSo at h
  refine j_lconst o (v := 0) dX7_isSo_0 rfl ?_
  refine j_lstore o [(4, .long 0), (0, .ref (P.1 4)), (1, .int a1), (2, .int a2), (3, .int a3)] dX7_isSo_1 (by decide) rfl ?_
  refine j_iload_n o dX7_isSo_3 rfl ?_
  refine j_istore o [(6, .int a1), (4, .long 0), (0, .ref (P.1 4)), (1, .int a1), (2, .int a2), (3, .int a3)] dX7_isSo_4 (by decide) rfl ?_
  replace h := h (fun (x1 : Int64) (x2 : Int32) => J X P M N 0 0 E 11 6 [(0, .ref (P.1 4)), (2, .int a2), (3, .int a3), (4, .long x1), (6, .int x2)] []) (by
    intro x1 x2 h
    refine j_iload o dX7_isSo_6 rfl ?_
    refine j_iload_n o dX7_isSo_8 rfl ?_
    refine j_icmp_ge o (tgt := 143) dX7_isSo_9 (by decide) (fun c3 => ?_) (fun c3 => ?_)
    · replace h := h.1 c3
      refine j_lload o dX7_isSo_143 rfl ?_
      refine j_lconst o (v := 1) dX7_isSo_145 rfl ?_
      refine j_land o dX7_isSo_146 ?_
      refine j_lconst o (v := 0) dX7_isSo_147 rfl ?_
      refine j_lcmp o dX7_isSo_148 ?_
      refine j_if_eq o (tgt := 156) dX7_isSo_149 (by decide) (fun c4 => ?_) (fun c4 => ?_)
      · replace h := h.1 c4
        refine j_iconst o (v := 0) dX7_isSo_156 rfl ?_
        rw [hE]
        exact j_zret o rfl dX7_isSo_157 ⟨_, rfl, rfl, rfl, rfl, h⟩
      · replace h := h.2 c4
        refine j_iconst o (v := 1) dX7_isSo_152 rfl ?_
        refine j_goto o (tgt := 157) dX7_isSo_153 (by decide) ?_
        rw [hE]
        exact j_zret o rfl dX7_isSo_157 ⟨_, rfl, rfl, rfl, rfl, h⟩
    · replace h := h.2 c3
      refine j_aload_n o dX7_isSo_12 rfl ?_
      refine j_getf o (g := 4) (slot := 2) (ci := 7) (v := .ref (P.1 18)) rfl jin_X7 (by decide) rfl jf_X7_9 (fun _ => rfl) rfl dX7_isSo_13 ?_
      refine j_iload o dX7_isSo_16 rfl ?_
      obtain ⟨hb5, h⟩ := h
      refine j_iald o (g := 18) (fun _ => rfl) hb5 dX7_isSo_18 ?_
      refine j_iconst o (v := 2) dX7_isSo_19 rfl ?_
      refine j_ishr o dX7_isSo_20 ?_
      refine j_istore o [(7, .int ((M 18 x2.toNatClampNeg) >>> (2 &&& 31))), (0, .ref (P.1 4)), (2, .int a2), (3, .int a3), (4, .long x1), (6, .int x2)] dX7_isSo_21 (by decide) rfl ?_
      refine j_lload o dX7_isSo_23 rfl ?_
      refine j_lconst o (v := 1) dX7_isSo_25 rfl ?_
      refine j_land o dX7_isSo_26 ?_
      refine j_lstore o [(8, .long (x1 &&& 1)), (7, .int ((M 18 x2.toNatClampNeg) >>> (2 &&& 31))), (0, .ref (P.1 4)), (2, .int a2), (3, .int a3), (4, .long x1), (6, .int x2)] dX7_isSo_27 (by decide) rfl ?_
      refine j_aload_n o dX7_isSo_29 rfl ?_
      refine j_getf o (g := 4) (slot := 2) (ci := 7) (v := .ref (P.1 18)) rfl jin_X7 (by decide) rfl jf_X7_9 (fun _ => rfl) rfl dX7_isSo_30 ?_
      refine j_iload o dX7_isSo_33 rfl ?_
      obtain ⟨hb6, h⟩ := h
      refine j_iald o (g := 18) (fun _ => rfl) hb6 dX7_isSo_35 ?_
      refine j_iconst o (v := 3) dX7_isSo_36 rfl ?_
      refine j_iand o dX7_isSo_37 ?_
      replace h := h (fun (x7 : Int64) => J X P M N 0 0 E 11 137 [(0, .ref (P.1 4)), (2, .int a2), (3, .int a3), (4, .long x7), (6, .int x2)] []) (by
        intro x7 h
        refine j_iinc o (v := x2 + 1) [(6, .int (x2 + 1)), (0, .ref (P.1 4)), (2, .int a2), (3, .int a3), (4, .long x7)] dX7_isSo_137 rfl rfl (by decide) rfl ?_
        refine j_goto o (tgt := 6) dX7_isSo_140 (by decide) ?_
        exact j_pick [1, 2, 3, 4, 0] rfl h)
      refine j_case o (off := 26) (v := 1) (tgt := 64) dX7_isSo_38 (by decide) (by decide) (fun c8 => ?_) (fun c8 => ?_)
      · replace h := h.1 c8
        refine j_lload o dX7_isSo_64 rfl ?_
        refine j_lconst o (v := 1) dX7_isSo_66 rfl ?_
        refine j_lxor o dX7_isSo_67 ?_
        refine j_lstore o [(4, .long (x1 ^^^ 1)), (8, .long (x1 &&& 1)), (7, .int ((M 18 x2.toNatClampNeg) >>> (2 &&& 31))), (0, .ref (P.1 4)), (2, .int a2), (3, .int a3), (6, .int x2)] dX7_isSo_68 (by decide) rfl ?_
        refine j_goto o (tgt := 137) dX7_isSo_70 (by decide) ?_
        exact j_pick [3, 4, 5, 0, 6] rfl h
      replace h := h.2
      refine j_case o (off := 35) (v := 2) (tgt := 73) dX7_isSo_38 (by decide) (by decide) (fun c9 => ?_) (fun c9 => ?_)
      · replace h := h.1 c9
        refine j_lload o dX7_isSo_73 rfl ?_
        refine j_iconst o (v := 1) dX7_isSo_75 rfl ?_
        refine j_lushr o dX7_isSo_76 ?_
        refine j_lload o dX7_isSo_77 rfl ?_
        refine j_ldc2 o jk_X7_149 dX7_isSo_79 ?_
        refine j_lor o dX7_isSo_82 ?_
        refine j_land o dX7_isSo_83 ?_
        refine j_lstore o [(4, .long ((jlushr x1 1) &&& ((x1 &&& 1) ||| (-2)))), (8, .long (x1 &&& 1)), (7, .int ((M 18 x2.toNatClampNeg) >>> (2 &&& 31))), (0, .ref (P.1 4)), (2, .int a2), (3, .int a3), (6, .int x2)] dX7_isSo_84 (by decide) rfl ?_
        refine j_goto o (tgt := 137) dX7_isSo_86 (by decide) ?_
        exact j_pick [3, 4, 5, 0, 6] rfl h
      replace h := h.2
      refine j_case o (off := 51) (v := 3) (tgt := 89) dX7_isSo_38 (by decide) (by decide) (fun c10 => ?_) (fun c10 => ?_)
      · replace h := h.1 c10
        refine j_lload o dX7_isSo_89 rfl ?_
        refine j_iconst o (v := 1) dX7_isSo_91 rfl ?_
        refine j_lushr o dX7_isSo_92 ?_
        refine j_lload o dX7_isSo_93 rfl ?_
        refine j_lor o dX7_isSo_95 ?_
        refine j_lstore o [(4, .long ((jlushr x1 1) ||| (x1 &&& 1))), (8, .long (x1 &&& 1)), (7, .int ((M 18 x2.toNatClampNeg) >>> (2 &&& 31))), (0, .ref (P.1 4)), (2, .int a2), (3, .int a3), (6, .int x2)] dX7_isSo_96 (by decide) rfl ?_
        refine j_goto o (tgt := 137) dX7_isSo_98 (by decide) ?_
        exact j_pick [3, 4, 5, 0, 6] rfl h
      replace h := h.2
      replace h := h c8 c9 c10
      refine j_caseD o (tgt := 101) dX7_isSo_38 (sw_out_1_3 c8 c9 c10) (by decide) ?_
      refine j_iload o dX7_isSo_101 rfl ?_
      refine j_iload_n o dX7_isSo_103 rfl ?_
      refine j_iand o dX7_isSo_104 ?_
      refine j_sipush o (v := 511) dX7_isSo_105 rfl ?_
      refine j_iand o dX7_isSo_108 ?_
      refine j_callSi o (c_J6_bitCount_0f7a4 l P ((((M 18 x2.toNatClampNeg) >>> (2 &&& 31)) &&& a3) &&& 511) M N _ h) dX7_isSo_109 jc_X7_151 jn_J6_bitCount_0f7a4 rfl rfl rfl rfl (fun r11 Mz12 Nz13 h => ?_)
      obtain ⟨rfl, rfl, h⟩ := h
      refine j_istore o [(10, .int r11), (8, .long (x1 &&& 1)), (7, .int ((M 18 x2.toNatClampNeg) >>> (2 &&& 31))), (0, .ref (P.1 4)), (2, .int a2), (3, .int a3), (4, .long x1), (6, .int x2)] dX7_isSo_112 (by decide) rfl ?_
      refine j_lload o dX7_isSo_114 rfl ?_
      refine j_iconst o (v := 1) dX7_isSo_116 rfl ?_
      refine j_lshl o dX7_isSo_117 ?_
      refine j_iload o dX7_isSo_118 rfl ?_
      refine j_iload o dX7_isSo_120 rfl ?_
      refine j_bipush o (v := 9) dX7_isSo_122 rfl ?_
      refine j_ishr o dX7_isSo_124 ?_
      replace h := h (fun (x14 : Int64) (x15 : Int32) => J X P M N 0 0 E 11 133 [(0, .ref (P.1 4)), (2, .int a2), (3, .int a3), (6, .int x2)] [.int x15, .long x14]) (by
        intro x14 x15 h
        refine j_i2l o dX7_isSo_133 ?_
        refine j_lor o dX7_isSo_134 ?_
        refine j_lstore o [(4, .long (x14 ||| x15.toInt64)), (0, .ref (P.1 4)), (2, .int a2), (3, .int a3), (6, .int x2)] dX7_isSo_135 (by decide) rfl ?_
        exact j_pick [1, 2, 3, 0, 4] rfl h)
      refine j_icmp_lt o (tgt := 132) dX7_isSo_125 (by decide) (fun c16 => ?_) (fun c16 => ?_)
      · replace h := h.1 c16
        refine j_iconst o (v := 0) dX7_isSo_132 rfl ?_
        exact j_pick [3, 4, 5, 7] rfl h
      · replace h := h.2 c16
        refine j_iconst o (v := 1) dX7_isSo_128 rfl ?_
        refine j_goto o (tgt := 133) dX7_isSo_129 (by decide) ?_
        exact j_pick [3, 4, 5, 7] rfl h)
  exact j_pick [2, 4, 5, 1, 0] rfl h

abbrev rm_X7_clausesThatHold : Room := { frames := 2, cells := 0, slots := 0, locals := 50 }
def w_X7_clausesThatHold (P : jP) (a1 : Int32) (M : jM) (Q : Int32 → Prop) : Prop :=
  ∀ R4 : Int32 → Int32 → Prop, (∀ (x1 : Int32) (x2 : Int32), (
   ((M 4 4) ≤ x2 → (
    Q x1
   )) ∧ (¬ (M 4 4) ≤ x2 → (
    vp_in x2 (12) ∧
    vp_in x2 (12) ∧
    ∀ R52 : Int32 → Prop, (∀ (x6 : Int32), (
     ∀ R85 : Int32 → Prop, (∀ (x7 : Int32), (
      R4 x7 (x2 + 1)
     ) → R85 x7) →
     (¬ x6 = 0 → (
      R85 x1
     )) ∧ (x6 = 0 → (
      vp_in x2 (12) ∧
      vp_in x2 (12) ∧
      w_X7_isSo P (M 20 x2.toNatClampNeg) (M 21 x2.toNatClampNeg) a1 M (fun r11 =>
      (r11 = 0 → (
       R85 x1
      )) ∧ (¬ r11 = 0 → (
       R85 (x1 ||| ((1 : Int32) <<< (x2 &&& 31)))
      )))
     ))
    ) → R52 x6) →
    ((M 22 x2.toNatClampNeg) ≤ (M 21 x2.toNatClampNeg) → (
     R52 0
    )) ∧ (¬ (M 22 x2.toNatClampNeg) ≤ (M 21 x2.toNatClampNeg) → (
     vp_in x2 (12) ∧
     vp_in x2 (12) ∧
     w_X7_isSo P (M 21 x2.toNatClampNeg) (M 22 x2.toNatClampNeg) a1 M (fun r18 =>
     (r18 = 0 → (
      R52 0
     )) ∧ (¬ r18 = 0 → (
      R52 1
     )))
    ))
   ))
  ) → R4 x1 x2) →
  R4 0 0
set_option maxRecDepth 20000 in
theorem c_X7_clausesThatHold (l : Launch) (P : jP) (a1 : Int32) (M : jM) (N : jN) (Q : Int32 → Prop) (h : w_X7_clausesThatHold P a1 M Q) : jC l yX7_clausesThatHold cX7_clausesThatHold 5 (some .int) rm_X7_clausesThatHold LC [.ref (P.1 4), .int a1] P M N (jqi P (fun r M' N' => M = M' ∧ N = N' ∧ Q r )) := by
  refine jC_of (by decide +kernel) [(0, .ref (P.1 4)), (1, .int a1)] (Nat.le_of_ble_eq_true rfl) rfl (fun X o => ?_)
  obtain ⟨E, hE⟩ : ∃ E, E = jE X rm_X7_clausesThatHold (jqi P (fun r M' N' => M = M' ∧ N = N' ∧ Q r )) := ⟨_, rfl⟩
  rw [← hE]
  unfold w_X7_clausesThatHold at h
  refine j_iconst o (v := 0) dX7_clausesThatHold_0 rfl ?_
  refine j_istore_n o [(2, .int 0), (0, .ref (P.1 4)), (1, .int a1)] dX7_clausesThatHold_1 (by decide) rfl ?_
  refine j_iconst o (v := 0) dX7_clausesThatHold_2 rfl ?_
  refine j_istore_n o [(3, .int 0), (2, .int 0), (0, .ref (P.1 4)), (1, .int a1)] dX7_clausesThatHold_3 (by decide) rfl ?_
  replace h := h (fun (x1 : Int32) (x2 : Int32) => J X P M N 0 0 E 5 4 [(0, .ref (P.1 4)), (1, .int a1), (2, .int x1), (3, .int x2)] []) (by
    intro x1 x2 h
    refine j_iload_n o dX7_clausesThatHold_4 rfl ?_
    refine j_aload_n o dX7_clausesThatHold_5 rfl ?_
    refine j_getf o (g := 4) (slot := 4) (ci := 7) (v := .int (M 4 4)) rfl jin_X7 (by decide) rfl jf_X7_50 (fun _ => rfl) rfl dX7_clausesThatHold_6 ?_
    refine j_icmp_ge o (tgt := 91) dX7_clausesThatHold_9 (by decide) (fun c3 => ?_) (fun c3 => ?_)
    · replace h := h.1 c3
      refine j_iload_n o dX7_clausesThatHold_91 rfl ?_
      rw [hE]
      exact j_iret o dX7_clausesThatHold_92 ⟨_, rfl, rfl, rfl, rfl, h⟩
    · replace h := h.2 c3
      refine j_aload_n o dX7_clausesThatHold_12 rfl ?_
      refine j_getf o (g := 4) (slot := 7) (ci := 7) (v := .ref (P.1 21)) rfl jin_X7 (by decide) rfl jf_X7_21 (fun _ => rfl) rfl dX7_clausesThatHold_13 ?_
      refine j_iload_n o dX7_clausesThatHold_16 rfl ?_
      obtain ⟨hb4, h⟩ := h
      refine j_iald o (g := 21) (fun _ => rfl) hb4 dX7_clausesThatHold_17 ?_
      refine j_aload_n o dX7_clausesThatHold_18 rfl ?_
      refine j_getf o (g := 4) (slot := 8) (ci := 7) (v := .ref (P.1 22)) rfl jin_X7 (by decide) rfl jf_X7_24 (fun _ => rfl) rfl dX7_clausesThatHold_19 ?_
      refine j_iload_n o dX7_clausesThatHold_22 rfl ?_
      obtain ⟨hb5, h⟩ := h
      refine j_iald o (g := 22) (fun _ => rfl) hb5 dX7_clausesThatHold_23 ?_
      replace h := h (fun (x6 : Int32) => J X P M N 0 0 E 5 52 [(0, .ref (P.1 4)), (1, .int a1), (2, .int x1), (3, .int x2)] [.int x6]) (by
        intro x6 h
        refine j_istore o [(4, .int x6), (0, .ref (P.1 4)), (1, .int a1), (2, .int x1), (3, .int x2)] dX7_clausesThatHold_52 (by decide) rfl ?_
        refine j_iload o dX7_clausesThatHold_54 rfl ?_
        replace h := h (fun (x7 : Int32) => J X P M N 0 0 E 5 85 [(0, .ref (P.1 4)), (1, .int a1), (2, .int x7), (3, .int x2)] []) (by
          intro x7 h
          refine j_iinc o (v := x2 + 1) [(3, .int (x2 + 1)), (0, .ref (P.1 4)), (1, .int a1), (2, .int x7)] dX7_clausesThatHold_85 rfl rfl (by decide) rfl ?_
          refine j_goto o (tgt := 4) dX7_clausesThatHold_88 (by decide) ?_
          exact j_pick [1, 2, 3, 0] rfl h)
        refine j_if_ne o (tgt := 85) dX7_clausesThatHold_56 (by decide) (fun c8 => ?_) (fun c8 => ?_)
        · replace h := h.1 c8
          exact j_pick [1, 2, 3, 4] rfl h
        · replace h := h.2 c8
          refine j_aload_n o dX7_clausesThatHold_59 rfl ?_
          refine j_aload_n o dX7_clausesThatHold_60 rfl ?_
          refine j_getf o (g := 4) (slot := 6) (ci := 7) (v := .ref (P.1 20)) rfl jin_X7 (by decide) rfl jf_X7_18 (fun _ => rfl) rfl dX7_clausesThatHold_61 ?_
          refine j_iload_n o dX7_clausesThatHold_64 rfl ?_
          obtain ⟨hb9, h⟩ := h
          refine j_iald o (g := 20) (fun _ => rfl) hb9 dX7_clausesThatHold_65 ?_
          refine j_aload_n o dX7_clausesThatHold_66 rfl ?_
          refine j_getf o (g := 4) (slot := 7) (ci := 7) (v := .ref (P.1 21)) rfl jin_X7 (by decide) rfl jf_X7_21 (fun _ => rfl) rfl dX7_clausesThatHold_67 ?_
          refine j_iload_n o dX7_clausesThatHold_70 rfl ?_
          obtain ⟨hb10, h⟩ := h
          refine j_iald o (g := 21) (fun _ => rfl) hb10 dX7_clausesThatHold_71 ?_
          refine j_iload_n o dX7_clausesThatHold_72 rfl ?_
          refine j_callVi (g := 4) (ci := 7) o (c_X7_isSo l P (M 20 x2.toNatClampNeg) (M 21 x2.toNatClampNeg) a1 M N _ h) dX7_clausesThatHold_73 jc_X7_145 jn_X7_isSo rfl rfl rfl (fun _ => rfl) rfl rfl (fun r11 Mz12 Nz13 h => ?_)
          obtain ⟨rfl, rfl, h⟩ := h
          refine j_if_eq o (tgt := 85) dX7_clausesThatHold_76 (by decide) (fun c14 => ?_) (fun c14 => ?_)
          · replace h := h.1 c14
            exact j_pick [1, 2, 3, 4] rfl h
          · replace h := h.2 c14
            refine j_iload_n o dX7_clausesThatHold_79 rfl ?_
            refine j_iconst o (v := 1) dX7_clausesThatHold_80 rfl ?_
            refine j_iload_n o dX7_clausesThatHold_81 rfl ?_
            refine j_ishl o dX7_clausesThatHold_82 ?_
            refine j_ior o dX7_clausesThatHold_83 ?_
            refine j_istore_n o [(2, .int (x1 ||| ((1 : Int32) <<< (x2 &&& 31)))), (4, .int x6), (0, .ref (P.1 4)), (1, .int a1), (3, .int x2)] dX7_clausesThatHold_84 (by decide) rfl ?_
            exact j_pick [2, 3, 0, 4] rfl h)
      refine j_icmp_ge o (tgt := 51) dX7_clausesThatHold_24 (by decide) (fun c15 => ?_) (fun c15 => ?_)
      · replace h := h.1 c15
        refine j_iconst o (v := 0) dX7_clausesThatHold_51 rfl ?_
        exact j_pick [0, 1, 2, 3] rfl h
      · replace h := h.2 c15
        refine j_aload_n o dX7_clausesThatHold_27 rfl ?_
        refine j_aload_n o dX7_clausesThatHold_28 rfl ?_
        refine j_getf o (g := 4) (slot := 7) (ci := 7) (v := .ref (P.1 21)) rfl jin_X7 (by decide) rfl jf_X7_21 (fun _ => rfl) rfl dX7_clausesThatHold_29 ?_
        refine j_iload_n o dX7_clausesThatHold_32 rfl ?_
        obtain ⟨hb16, h⟩ := h
        refine j_iald o (g := 21) (fun _ => rfl) hb16 dX7_clausesThatHold_33 ?_
        refine j_aload_n o dX7_clausesThatHold_34 rfl ?_
        refine j_getf o (g := 4) (slot := 8) (ci := 7) (v := .ref (P.1 22)) rfl jin_X7 (by decide) rfl jf_X7_24 (fun _ => rfl) rfl dX7_clausesThatHold_35 ?_
        refine j_iload_n o dX7_clausesThatHold_38 rfl ?_
        obtain ⟨hb17, h⟩ := h
        refine j_iald o (g := 22) (fun _ => rfl) hb17 dX7_clausesThatHold_39 ?_
        refine j_iload_n o dX7_clausesThatHold_40 rfl ?_
        refine j_callVi (g := 4) (ci := 7) o (c_X7_isSo l P (M 21 x2.toNatClampNeg) (M 22 x2.toNatClampNeg) a1 M N _ h) dX7_clausesThatHold_41 jc_X7_145 jn_X7_isSo rfl rfl rfl (fun _ => rfl) rfl rfl (fun r18 Mz19 Nz20 h => ?_)
        obtain ⟨rfl, rfl, h⟩ := h
        refine j_if_eq o (tgt := 51) dX7_clausesThatHold_44 (by decide) (fun c21 => ?_) (fun c21 => ?_)
        · replace h := h.1 c21
          refine j_iconst o (v := 0) dX7_clausesThatHold_51 rfl ?_
          exact j_pick [0, 1, 2, 3] rfl h
        · replace h := h.2 c21
          refine j_iconst o (v := 1) dX7_clausesThatHold_47 rfl ?_
          refine j_goto o (tgt := 52) dX7_clausesThatHold_48 (by decide) ?_
          exact j_pick [0, 1, 2, 3] rfl h)
  exact j_pick [2, 3, 1, 0] rfl h

abbrev rm_X7_questionHolds : Room := { frames := 2, cells := 0, slots := 0, locals := 50 }
def w_X7_questionHolds (P : jP) (a1 : Int32) (M : jM) (Q : Int32 → Prop) : Prop :=
  w_X7_isSo P 0 (M 4 3) a1 M (fun r1 =>
  jb r1 ∧
  Q r1)
set_option maxRecDepth 20000 in
theorem c_X7_questionHolds (l : Launch) (P : jP) (a1 : Int32) (M : jM) (N : jN) (Q : Int32 → Prop) (h : w_X7_questionHolds P a1 M Q) : jC l yX7_questionHolds cX7_questionHolds 2 (some .boolean) rm_X7_questionHolds LC [.ref (P.1 4), .int a1] P M N (jqi P (fun r M' N' => M = M' ∧ N = N' ∧ Q r )) := by
  refine jC_of (by decide +kernel) [(0, .ref (P.1 4)), (1, .int a1)] (Nat.le_of_ble_eq_true rfl) rfl (fun X o => ?_)
  obtain ⟨E, hE⟩ : ∃ E, E = jE X rm_X7_questionHolds (jqi P (fun r M' N' => M = M' ∧ N = N' ∧ Q r )) := ⟨_, rfl⟩
  rw [← hE]
  unfold w_X7_questionHolds at h
  refine j_aload_n o dX7_questionHolds_0 rfl ?_
  refine j_iconst o (v := 0) dX7_questionHolds_1 rfl ?_
  refine j_aload_n o dX7_questionHolds_2 rfl ?_
  refine j_getf o (g := 4) (slot := 3) (ci := 7) (v := .int (M 4 3)) rfl jin_X7 (by decide) rfl jf_X7_47 (fun _ => rfl) rfl dX7_questionHolds_3 ?_
  refine j_iload_n o dX7_questionHolds_6 rfl ?_
  refine j_callVi (g := 4) (ci := 7) o (c_X7_isSo l P 0 (M 4 3) a1 M N _ h) dX7_questionHolds_7 jc_X7_145 jn_X7_isSo rfl rfl rfl (fun _ => rfl) rfl rfl (fun r1 Mz2 Nz3 h => ?_)
  obtain ⟨rfl, rfl, h⟩ := h
  obtain ⟨hz4, h⟩ := h
  rw [hE]
  exact j_zret o hz4.1 dX7_questionHolds_10 ⟨_, rfl, rfl, rfl, rfl, h⟩

abbrev rm_X8_added : Room := { frames := 0, cells := 0, slots := 0, locals := 0 }
def w_X8_added (P : jP) (a1 : Int32) (a2 : Int32) (M : jM) (Q : Int32 → jM → Prop) : Prop :=
  ((M 10 0) < 20 → (
   vp_in (M 10 0) (20) ∧
   vp_in ((upM M 43 (M 10 0).toNatClampNeg a1) 10 0) (20) ∧
   ∀ M4 : jM, M4 = upM (upM M 43 (M 10 0).toNatClampNeg a1) 44 ((upM M 43 (M 10 0).toNatClampNeg a1) 10 0).toNatClampNeg a2 →
   Q ((upM M4 10 0 ((M4 10 0) + 1)) 10 0) (upM M4 10 0 ((M4 10 0) + 1))
  )) ∧ (¬ (M 10 0) < 20 → (
   Q (-1) M
  ))
set_option maxRecDepth 20000 in
theorem c_X8_added (l : Launch) (P : jP) (a1 : Int32) (a2 : Int32) (M : jM) (N : jN) (Q : Int32 → jM → Prop) (h : w_X8_added P a1 a2 M Q) : jC l yX8_added cX8_added 3 (some .int) rm_X8_added LC [.ref (P.1 10), .int a1, .int a2] P M N (jqi P (fun r M' N' => N = N' ∧ Q r M' )) := by
  refine jC_of (by decide +kernel) [(0, .ref (P.1 10)), (1, .int a1), (2, .int a2)] (Nat.le_of_ble_eq_true rfl) rfl (fun X o => ?_)
  obtain ⟨E, hE⟩ : ∃ E, E = jE X rm_X8_added (jqi P (fun r M' N' => N = N' ∧ Q r M' )) := ⟨_, rfl⟩
  rw [← hE]
  unfold w_X8_added at h
  refine j_aload_n o dX8_added_0 rfl ?_
  refine j_getf o (g := 10) (slot := 0) (ci := 8) (v := .int (M 10 0)) rfl jin_X8 (by decide) rfl jf_X8_18 (fun _ => rfl) rfl dX8_added_1 ?_
  refine j_bipush o (v := 20) dX8_added_4 rfl ?_
  refine j_icmp_lt o (tgt := 11) dX8_added_6 (by decide) (fun c1 => ?_) (fun c1 => ?_)
  · replace h := h.1 c1
    refine j_aload_n o dX8_added_11 rfl ?_
    refine j_getf o (g := 10) (slot := 1) (ci := 8) (v := .ref (P.1 43)) rfl jin_X8 (by decide) rfl jf_X8_9 (fun _ => rfl) rfl dX8_added_12 ?_
    refine j_aload_n o dX8_added_15 rfl ?_
    refine j_getf o (g := 10) (slot := 0) (ci := 8) (v := .int (M 10 0)) rfl jin_X8 (by decide) rfl jf_X8_18 (fun _ => rfl) rfl dX8_added_16 ?_
    refine j_iload_n o dX8_added_19 rfl ?_
    obtain ⟨hb2, h⟩ := h
    refine j_iast o (g := 43) (fun _ _ _ => rfl) hb2 dX8_added_20 ?_
    refine j_aload_n o dX8_added_21 rfl ?_
    refine j_getf o (g := 10) (slot := 2) (ci := 8) (v := .ref (P.1 44)) rfl jin_X8 (by decide) rfl jf_X8_15 (fun _ => rfl) rfl dX8_added_22 ?_
    refine j_aload_n o dX8_added_25 rfl ?_
    refine j_getf o (g := 10) (slot := 0) (ci := 8) (v := .int ((upM M 43 (M 10 0).toNatClampNeg a1) 10 0)) rfl jin_X8 (by decide) rfl jf_X8_18 (fun _ => rfl) rfl dX8_added_26 ?_
    refine j_iload_n o dX8_added_29 rfl ?_
    obtain ⟨hb3, h⟩ := h
    refine j_iast o (g := 44) (fun _ _ _ => rfl) hb3 dX8_added_30 ?_
    refine j_nameM (fun M4 hM4 => ?_)
    replace h := h M4 hM4
    refine j_aload_n o dX8_added_31 rfl ?_
    refine j_dup o dX8_added_32 rfl ?_
    refine j_getf o (g := 10) (slot := 0) (ci := 8) (v := .int (M4 10 0)) rfl jin_X8 (by decide) rfl jf_X8_18 (fun _ => rfl) rfl dX8_added_33 ?_
    refine j_iconst o (v := 1) dX8_added_36 rfl ?_
    refine j_iadd o dX8_added_37 ?_
    refine j_putf o (M1 := upM M4 10 0 ((M4 10 0) + 1)) (N1 := N) (g := 10) (slot := 0) (ci := 8) (ty := .int) rfl jin_X8 tyX8_ok nmX8 (by decide) rfl rfl jf_X8_18 (by decide +kernel) rfl rfl (Nat.le_of_ble_eq_true rfl) (fun _ => rfl) (fun _ => rfl) (fun _ hj => upM_ne _ _ _ hj) (fun _ _ => rfl) dX8_added_38 ?_
    refine j_aload_n o dX8_added_41 rfl ?_
    refine j_getf o (g := 10) (slot := 0) (ci := 8) (v := .int ((upM M4 10 0 ((M4 10 0) + 1)) 10 0)) rfl jin_X8 (by decide) rfl jf_X8_18 (fun _ => rfl) rfl dX8_added_42 ?_
    rw [hE]
    exact j_iret o dX8_added_45 ⟨_, rfl, rfl, rfl, h⟩
  · replace h := h.2 c1
    refine j_iconst o (v := (-1)) dX8_added_9 rfl ?_
    rw [hE]
    exact j_iret o dX8_added_10 ⟨_, rfl, rfl, rfl, h⟩

abbrev rm_X8_againstWithout : Room := { frames := 3, cells := 0, slots := 0, locals := 62 }
def w_X8_againstWithout (P : jP) (a1 : Nat) (a2 : Int32) (M : jM) (Q : Int32 → Prop) : Prop :=
  ∀ R5 : Int32 → Int32 → Prop, (∀ (x1 : Int32) (x2 : Int32), (
   ((M 10 0) ≤ x2 → (
    Q x1
   )) ∧ (¬ (M 10 0) ≤ x2 → (
    cLw P a1 = true ∧
    vp_in x2 (20) ∧
    jin P (a1 + 2) (M 43 x2.toNatClampNeg) ∧
    cLw P a1 = true ∧
    w_X4_outcomeOf P a1 ((M (a1 + 2) (M 43 x2.toNatClampNeg).toNatClampNeg) &&& (a2 ^^^ (-1))) M (fun r7 =>
    vp_in x2 (20) ∧
    ∀ R51 : Int32 → Prop, (∀ (x12 : Int32), (
     R5 x12 (x2 + 1)
    ) → R51 x12) →
    (r7 = (M 44 x2.toNatClampNeg) → (
     R51 x1
    )) ∧ (¬ r7 = (M 44 x2.toNatClampNeg) → (
     R51 (x1 ||| ((1 : Int32) <<< (x2 &&& 31)))
    )))
   ))
  ) → R5 x1 x2) →
  R5 0 0
set_option maxRecDepth 20000 in
theorem c_X8_againstWithout (l : Launch) (P : jP) (a1 : Nat) (a2 : Int32) (M : jM) (N : jN) (Q : Int32 → Prop) (h : w_X8_againstWithout P a1 a2 M Q) : jC l yX8_againstWithout cX8_againstWithout 5 (some .int) rm_X8_againstWithout LC [.ref (P.1 10), .ref (P.1 a1), .int a2] P M N (jqi P (fun r M' N' => M = M' ∧ N = N' ∧ Q r )) := by
  refine jC_of (by decide +kernel) [(0, .ref (P.1 10)), (1, .ref (P.1 a1)), (2, .int a2)] (Nat.le_of_ble_eq_true rfl) rfl (fun X o => ?_)
  obtain ⟨E, hE⟩ : ∃ E, E = jE X rm_X8_againstWithout (jqi P (fun r M' N' => M = M' ∧ N = N' ∧ Q r )) := ⟨_, rfl⟩
  rw [← hE]
  unfold w_X8_againstWithout at h
  refine j_iconst o (v := 0) dX8_againstWithout_0 rfl ?_
  refine j_istore_n o [(3, .int 0), (0, .ref (P.1 10)), (1, .ref (P.1 a1)), (2, .int a2)] dX8_againstWithout_1 (by decide) rfl ?_
  refine j_iconst o (v := 0) dX8_againstWithout_2 rfl ?_
  refine j_istore o [(4, .int 0), (3, .int 0), (0, .ref (P.1 10)), (1, .ref (P.1 a1)), (2, .int a2)] dX8_againstWithout_3 (by decide) rfl ?_
  replace h := h (fun (x1 : Int32) (x2 : Int32) => J X P M N 0 0 E 5 5 [(0, .ref (P.1 10)), (1, .ref (P.1 a1)), (2, .int a2), (3, .int x1), (4, .int x2)] []) (by
    intro x1 x2 h
    refine j_iload o dX8_againstWithout_5 rfl ?_
    refine j_aload_n o dX8_againstWithout_7 rfl ?_
    refine j_getf o (g := 10) (slot := 0) (ci := 8) (v := .int (M 10 0)) rfl jin_X8 (by decide) rfl jf_X8_18 (fun _ => rfl) rfl dX8_againstWithout_8 ?_
    refine j_icmp_ge o (tgt := 57) dX8_againstWithout_11 (by decide) (fun c3 => ?_) (fun c3 => ?_)
    · replace h := h.1 c3
      refine j_iload_n o dX8_againstWithout_57 rfl ?_
      rw [hE]
      exact j_iret o dX8_againstWithout_58 ⟨_, rfl, rfl, rfl, rfl, h⟩
    · replace h := h.2 c3
      refine j_aload_n o dX8_againstWithout_14 rfl ?_
      refine j_aload_n o dX8_againstWithout_15 rfl ?_
      obtain ⟨hb4, h⟩ := h
      refine j_getf o (g := a1) (slot := 2) (ci := 4) (v := .ref (P.1 (a1 + 2))) rfl jin_X4 (by decide) rfl jf_X8_22 (fun tA => LC_lw hb4 tA _ _) rfl dX8_againstWithout_16 ?_
      refine j_aload_n o dX8_againstWithout_19 rfl ?_
      refine j_getf o (g := 10) (slot := 1) (ci := 8) (v := .ref (P.1 43)) rfl jin_X8 (by decide) rfl jf_X8_9 (fun _ => rfl) rfl dX8_againstWithout_20 ?_
      refine j_iload o dX8_againstWithout_23 rfl ?_
      obtain ⟨hb5, h⟩ := h
      refine j_iald o (g := 43) (fun _ => rfl) hb5 dX8_againstWithout_25 ?_
      obtain ⟨hb6, h⟩ := h
      obtain ⟨nnhb6, hchb6, hihb6⟩ := hb6
      refine j_iald o (g := a1 + 2) (fun tA => LC_ia hchb6 tA _ _) hihb6 dX8_againstWithout_26 ?_
      refine j_iload_n o dX8_againstWithout_27 rfl ?_
      refine j_iconst o (v := (-1)) dX8_againstWithout_28 rfl ?_
      refine j_ixor o dX8_againstWithout_29 ?_
      refine j_iand o dX8_againstWithout_30 ?_
      obtain ⟨hb10, h⟩ := h
      refine j_callVi (g := a1) (ci := 4) o (c_X4_outcomeOf l P a1 ((M (a1 + 2) (M 43 x2.toNatClampNeg).toNatClampNeg) &&& (a2 ^^^ (-1))) M N _ h) dX8_againstWithout_31 jc_X8_27 jn_X4_outcomeOf rfl rfl rfl (fun tA => LC_lw hb10 tA _ _) rfl rfl (fun r7 Mz8 Nz9 h => ?_)
      obtain ⟨rfl, rfl, h⟩ := h
      refine j_aload_n o dX8_againstWithout_34 rfl ?_
      refine j_getf o (g := 10) (slot := 2) (ci := 8) (v := .ref (P.1 44)) rfl jin_X8 (by decide) rfl jf_X8_15 (fun _ => rfl) rfl dX8_againstWithout_35 ?_
      refine j_iload o dX8_againstWithout_38 rfl ?_
      obtain ⟨hb11, h⟩ := h
      refine j_iald o (g := 44) (fun _ => rfl) hb11 dX8_againstWithout_40 ?_
      replace h := h (fun (x12 : Int32) => J X P M N 0 0 E 5 51 [(0, .ref (P.1 10)), (1, .ref (P.1 a1)), (2, .int a2), (3, .int x12), (4, .int x2)] []) (by
        intro x12 h
        refine j_iinc o (v := x2 + 1) [(4, .int (x2 + 1)), (0, .ref (P.1 10)), (1, .ref (P.1 a1)), (2, .int a2), (3, .int x12)] dX8_againstWithout_51 rfl rfl (by decide) rfl ?_
        refine j_goto o (tgt := 5) dX8_againstWithout_54 (by decide) ?_
        exact j_pick [1, 2, 3, 4, 0] rfl h)
      refine j_icmp_eq o (tgt := 51) dX8_againstWithout_41 (by decide) (fun c13 => ?_) (fun c13 => ?_)
      · replace h := h.1 c13
        exact j_pick [0, 1, 2, 3, 4] rfl h
      · replace h := h.2 c13
        refine j_iload_n o dX8_againstWithout_44 rfl ?_
        refine j_iconst o (v := 1) dX8_againstWithout_45 rfl ?_
        refine j_iload o dX8_againstWithout_46 rfl ?_
        refine j_ishl o dX8_againstWithout_48 ?_
        refine j_ior o dX8_againstWithout_49 ?_
        refine j_istore_n o [(3, .int (x1 ||| ((1 : Int32) <<< (x2 &&& 31)))), (0, .ref (P.1 10)), (1, .ref (P.1 a1)), (2, .int a2), (4, .int x2)] dX8_againstWithout_50 (by decide) rfl ?_
        exact j_pick [1, 2, 3, 0, 4] rfl h)
  exact j_pick [2, 3, 4, 1, 0] rfl h

abbrev rm_X9_change : Room := { frames := 0, cells := 0, slots := 0, locals := 0 }
def w_X9_change (P : jP) (a1 : Int32) (a2 : Int32) (a3 : Int32) (M : jM) (Q : Int32 → jM → Prop) : Prop :=
  (a2 < 0 → (
   Q 0 M
  )) ∧ (¬ a2 < 0 → (
   ((M 6 0) ≤ a2 → (
    Q 0 M
   )) ∧ (¬ (M 6 0) ≤ a2 → (
    (0 ≤ a3 → (
     ∀ R42 : Prop, ((
      ∀ R72 : Prop, ((
       (¬ a1 = 3 → (
        Q 0 M
       )) ∧ (a1 = 3 → (
        (10 < a3 → (
         Q 0 M
        )) ∧ (¬ 10 < a3 → (
         vp_in a2 (P.2.2 0) ∧
         Q 1 (upM M 28 a2.toNatClampNeg a3)
        ))
       ))
      ) → R72) →
      (¬ a1 = 2 → (
       R72
      )) ∧ (a1 = 2 → (
       (1 < a3 → (
        R72
       )) ∧ (¬ 1 < a3 → (
        ∀ M9 : jM, M9 = upM M 6 3 (((M 6 3) &&& (((1 : Int32) <<< (a2 &&& 31)) ^^^ (-1))) ||| (a3 <<< (a2 &&& 31))) →
        Q 1 M9
       ))
      ))
     ) → R42) →
     (¬ a1 = 0 → (
      R42
     )) ∧ (a1 = 0 → (
      (a3 < 1 → (
       R42
      )) ∧ (¬ a3 < 1 → (
       (99 < a3 → (
        R42
       )) ∧ (¬ 99 < a3 → (
        vp_in a2 (P.2.2 0) ∧
        Q 1 (upM M 27 a2.toNatClampNeg a3)
       ))
      ))
     ))
    )) ∧ (¬ 0 ≤ a3 → (
     Q 0 M
    ))
   ))
  ))
set_option maxRecDepth 20000 in
theorem c_X9_change (l : Launch) (P : jP) (a1 : Int32) (a2 : Int32) (a3 : Int32) (M : jM) (N : jN) (Q : Int32 → jM → Prop) (h : w_X9_change P a1 a2 a3 M Q) : jC l yX9_change cX9_change 4 (some .boolean) rm_X9_change LC [.ref (P.1 6), .int a1, .int a2, .int a3] P M N (jqi P (fun r M' N' => N = N' ∧ Q r M' )) := by
  refine jC_of (by decide +kernel) [(0, .ref (P.1 6)), (1, .int a1), (2, .int a2), (3, .int a3)] (Nat.le_of_ble_eq_true rfl) rfl (fun X o => ?_)
  obtain ⟨E, hE⟩ : ∃ E, E = jE X rm_X9_change (jqi P (fun r M' N' => N = N' ∧ Q r M' )) := ⟨_, rfl⟩
  rw [← hE]
  unfold w_X9_change at h
  refine j_iload_n o dX9_change_0 rfl ?_
  refine j_if_lt o (tgt := 16) dX9_change_1 (by decide) (fun c1 => ?_) (fun c1 => ?_)
  · replace h := h.1 c1
    refine j_iconst o (v := 0) dX9_change_16 rfl ?_
    rw [hE]
    exact j_zret o rfl dX9_change_17 ⟨_, rfl, rfl, rfl, h⟩
  · replace h := h.2 c1
    refine j_iload_n o dX9_change_4 rfl ?_
    refine j_aload_n o dX9_change_5 rfl ?_
    refine j_getf o (g := 6) (slot := 0) (ci := 9) (v := .int (M 6 0)) rfl jin_X9 (by decide) rfl jf_X9_9 (fun _ => rfl) rfl dX9_change_6 ?_
    refine j_icmp_ge o (tgt := 16) dX9_change_9 (by decide) (fun c2 => ?_) (fun c2 => ?_)
    · replace h := h.1 c2
      refine j_iconst o (v := 0) dX9_change_16 rfl ?_
      rw [hE]
      exact j_zret o rfl dX9_change_17 ⟨_, rfl, rfl, rfl, h⟩
    · replace h := h.2 c2
      refine j_iload_n o dX9_change_12 rfl ?_
      refine j_if_ge o (tgt := 18) dX9_change_13 (by decide) (fun c3 => ?_) (fun c3 => ?_)
      · replace h := h.1 c3
        refine j_iload_n o dX9_change_18 rfl ?_
        replace h := h (J X P M N 0 0 E 4 42 [(0, .ref (P.1 6)), (1, .int a1), (2, .int a2), (3, .int a3)] []) (by
          intro h
          refine j_iload_n o dX9_change_42 rfl ?_
          refine j_iconst o (v := 2) dX9_change_43 rfl ?_
          replace h := h (J X P M N 0 0 E 4 72 [(0, .ref (P.1 6)), (1, .int a1), (2, .int a2), (3, .int a3)] []) (by
            intro h
            refine j_iload_n o dX9_change_72 rfl ?_
            refine j_iconst o (v := 3) dX9_change_73 rfl ?_
            refine j_icmp_ne o (tgt := 92) dX9_change_74 (by decide) (fun c4 => ?_) (fun c4 => ?_)
            · replace h := h.1 c4
              refine j_iconst o (v := 0) dX9_change_92 rfl ?_
              rw [hE]
              exact j_zret o rfl dX9_change_93 ⟨_, rfl, rfl, rfl, h⟩
            · replace h := h.2 c4
              refine j_iload_n o dX9_change_77 rfl ?_
              refine j_bipush o (v := 10) dX9_change_78 rfl ?_
              refine j_icmp_gt o (tgt := 92) dX9_change_80 (by decide) (fun c5 => ?_) (fun c5 => ?_)
              · replace h := h.1 c5
                refine j_iconst o (v := 0) dX9_change_92 rfl ?_
                rw [hE]
                exact j_zret o rfl dX9_change_93 ⟨_, rfl, rfl, rfl, h⟩
              · replace h := h.2 c5
                refine j_aload_n o dX9_change_83 rfl ?_
                refine j_getf o (g := 6) (slot := 2) (ci := 9) (v := .ref (P.1 28)) rfl jin_X9 (by decide) rfl jf_X9_19 (fun _ => rfl) rfl dX9_change_84 ?_
                refine j_iload_n o dX9_change_87 rfl ?_
                refine j_iload_n o dX9_change_88 rfl ?_
                obtain ⟨hb6, h⟩ := h
                refine j_iast o (g := 28) (fun _ _ _ => rfl) hb6 dX9_change_89 ?_
                refine j_iconst o (v := 1) dX9_change_90 rfl ?_
                rw [hE]
                exact j_zret o rfl dX9_change_91 ⟨_, rfl, rfl, rfl, h⟩)
          refine j_icmp_ne o (tgt := 72) dX9_change_44 (by decide) (fun c7 => ?_) (fun c7 => ?_)
          · replace h := h.1 c7
            exact j_pick [0, 1, 2, 3] rfl h
          · replace h := h.2 c7
            refine j_iload_n o dX9_change_47 rfl ?_
            refine j_iconst o (v := 1) dX9_change_48 rfl ?_
            refine j_icmp_gt o (tgt := 72) dX9_change_49 (by decide) (fun c8 => ?_) (fun c8 => ?_)
            · replace h := h.1 c8
              exact j_pick [0, 1, 2, 3] rfl h
            · replace h := h.2 c8
              refine j_aload_n o dX9_change_52 rfl ?_
              refine j_aload_n o dX9_change_53 rfl ?_
              refine j_getf o (g := 6) (slot := 3) (ci := 9) (v := .int (M 6 3)) rfl jin_X9 (by decide) rfl jf_X9_22 (fun _ => rfl) rfl dX9_change_54 ?_
              refine j_iconst o (v := 1) dX9_change_57 rfl ?_
              refine j_iload_n o dX9_change_58 rfl ?_
              refine j_ishl o dX9_change_59 ?_
              refine j_iconst o (v := (-1)) dX9_change_60 rfl ?_
              refine j_ixor o dX9_change_61 ?_
              refine j_iand o dX9_change_62 ?_
              refine j_iload_n o dX9_change_63 rfl ?_
              refine j_iload_n o dX9_change_64 rfl ?_
              refine j_ishl o dX9_change_65 ?_
              refine j_ior o dX9_change_66 ?_
              refine j_putf o (M1 := upM M 6 3 (((M 6 3) &&& (((1 : Int32) <<< (a2 &&& 31)) ^^^ (-1))) ||| (a3 <<< (a2 &&& 31)))) (N1 := N) (g := 6) (slot := 3) (ci := 9) (ty := .int) rfl jin_X9 tyX9_ok nmX9 (by decide) rfl rfl jf_X9_22 (by decide +kernel) rfl rfl (Nat.le_of_ble_eq_true rfl) (fun _ => rfl) (fun _ => rfl) (fun _ hj => upM_ne _ _ _ hj) (fun _ _ => rfl) dX9_change_67 ?_
              refine j_nameM (fun M9 hM9 => ?_)
              replace h := h M9 hM9
              refine j_iconst o (v := 1) dX9_change_70 rfl ?_
              rw [hE]
              exact j_zret o rfl dX9_change_71 ⟨_, rfl, rfl, rfl, h⟩)
        refine j_if_ne o (tgt := 42) dX9_change_19 (by decide) (fun c10 => ?_) (fun c10 => ?_)
        · replace h := h.1 c10
          exact j_pick [0, 1, 2, 3] rfl h
        · replace h := h.2 c10
          refine j_iload_n o dX9_change_22 rfl ?_
          refine j_iconst o (v := 1) dX9_change_23 rfl ?_
          refine j_icmp_lt o (tgt := 42) dX9_change_24 (by decide) (fun c11 => ?_) (fun c11 => ?_)
          · replace h := h.1 c11
            exact j_pick [0, 1, 2, 3] rfl h
          · replace h := h.2 c11
            refine j_iload_n o dX9_change_27 rfl ?_
            refine j_bipush o (v := 99) dX9_change_28 rfl ?_
            refine j_icmp_gt o (tgt := 42) dX9_change_30 (by decide) (fun c12 => ?_) (fun c12 => ?_)
            · replace h := h.1 c12
              exact j_pick [0, 1, 2, 3] rfl h
            · replace h := h.2 c12
              refine j_aload_n o dX9_change_33 rfl ?_
              refine j_getf o (g := 6) (slot := 1) (ci := 9) (v := .ref (P.1 27)) rfl jin_X9 (by decide) rfl jf_X9_15 (fun _ => rfl) rfl dX9_change_34 ?_
              refine j_iload_n o dX9_change_37 rfl ?_
              refine j_iload_n o dX9_change_38 rfl ?_
              obtain ⟨hb13, h⟩ := h
              refine j_iast o (g := 27) (fun _ _ _ => rfl) hb13 dX9_change_39 ?_
              refine j_iconst o (v := 1) dX9_change_40 rfl ?_
              rw [hE]
              exact j_zret o rfl dX9_change_41 ⟨_, rfl, rfl, rfl, h⟩
      · replace h := h.2 c3
        refine j_iconst o (v := 0) dX9_change_16 rfl ?_
        rw [hE]
        exact j_zret o rfl dX9_change_17 ⟨_, rfl, rfl, rfl, h⟩

abbrev rm_X9_minutesOf : Room := { frames := 0, cells := 0, slots := 0, locals := 0 }
def w_X9_minutesOf (P : jP) (a1 : Int32) (M : jM) (Q : Int32 → Prop) : Prop :=
  ∀ R4 : Int32 → Int32 → Prop, (∀ (x1 : Int32) (x2 : Int32), (
   ((M 6 0) ≤ x2 → (
    Q x1
   )) ∧ (¬ (M 6 0) ≤ x2 → (
    ∀ R29 : Int32 → Prop, (∀ (x4 : Int32), (
     R4 x4 (x2 + 1)
    ) → R29 x4) →
    (((a1 >>> (x2 &&& 31)) &&& 1) = 0 → (
     R29 x1
    )) ∧ (¬ ((a1 >>> (x2 &&& 31)) &&& 1) = 0 → (
     vp_in x2 (P.2.2 0) ∧
     R29 (x1 + (M 27 x2.toNatClampNeg))
    ))
   ))
  ) → R4 x1 x2) →
  R4 0 0
set_option maxRecDepth 20000 in
theorem c_X9_minutesOf (l : Launch) (P : jP) (a1 : Int32) (M : jM) (N : jN) (Q : Int32 → Prop) (h : w_X9_minutesOf P a1 M Q) : jC l yX9_minutesOf cX9_minutesOf 4 (some .int) rm_X9_minutesOf LC [.ref (P.1 6), .int a1] P M N (jqi P (fun r M' N' => M = M' ∧ N = N' ∧ Q r )) := by
  refine jC_of (by decide +kernel) [(0, .ref (P.1 6)), (1, .int a1)] (Nat.le_of_ble_eq_true rfl) rfl (fun X o => ?_)
  obtain ⟨E, hE⟩ : ∃ E, E = jE X rm_X9_minutesOf (jqi P (fun r M' N' => M = M' ∧ N = N' ∧ Q r )) := ⟨_, rfl⟩
  rw [← hE]
  unfold w_X9_minutesOf at h
  refine j_iconst o (v := 0) dX9_minutesOf_0 rfl ?_
  refine j_istore_n o [(2, .int 0), (0, .ref (P.1 6)), (1, .int a1)] dX9_minutesOf_1 (by decide) rfl ?_
  refine j_iconst o (v := 0) dX9_minutesOf_2 rfl ?_
  refine j_istore_n o [(3, .int 0), (2, .int 0), (0, .ref (P.1 6)), (1, .int a1)] dX9_minutesOf_3 (by decide) rfl ?_
  replace h := h (fun (x1 : Int32) (x2 : Int32) => J X P M N 0 0 E 4 4 [(0, .ref (P.1 6)), (1, .int a1), (2, .int x1), (3, .int x2)] []) (by
    intro x1 x2 h
    refine j_iload_n o dX9_minutesOf_4 rfl ?_
    refine j_aload_n o dX9_minutesOf_5 rfl ?_
    refine j_getf o (g := 6) (slot := 0) (ci := 9) (v := .int (M 6 0)) rfl jin_X9 (by decide) rfl jf_X9_9 (fun _ => rfl) rfl dX9_minutesOf_6 ?_
    refine j_icmp_ge o (tgt := 35) dX9_minutesOf_9 (by decide) (fun c3 => ?_) (fun c3 => ?_)
    · replace h := h.1 c3
      refine j_iload_n o dX9_minutesOf_35 rfl ?_
      rw [hE]
      exact j_iret o dX9_minutesOf_36 ⟨_, rfl, rfl, rfl, rfl, h⟩
    · replace h := h.2 c3
      refine j_iload_n o dX9_minutesOf_12 rfl ?_
      refine j_iload_n o dX9_minutesOf_13 rfl ?_
      refine j_ishr o dX9_minutesOf_14 ?_
      refine j_iconst o (v := 1) dX9_minutesOf_15 rfl ?_
      refine j_iand o dX9_minutesOf_16 ?_
      replace h := h (fun (x4 : Int32) => J X P M N 0 0 E 4 29 [(0, .ref (P.1 6)), (1, .int a1), (2, .int x4), (3, .int x2)] []) (by
        intro x4 h
        refine j_iinc o (v := x2 + 1) [(3, .int (x2 + 1)), (0, .ref (P.1 6)), (1, .int a1), (2, .int x4)] dX9_minutesOf_29 rfl rfl (by decide) rfl ?_
        refine j_goto o (tgt := 4) dX9_minutesOf_32 (by decide) ?_
        exact j_pick [1, 2, 3, 0] rfl h)
      refine j_if_eq o (tgt := 29) dX9_minutesOf_17 (by decide) (fun c5 => ?_) (fun c5 => ?_)
      · replace h := h.1 c5
        exact j_pick [0, 1, 2, 3] rfl h
      · replace h := h.2 c5
        refine j_iload_n o dX9_minutesOf_20 rfl ?_
        refine j_aload_n o dX9_minutesOf_21 rfl ?_
        refine j_getf o (g := 6) (slot := 1) (ci := 9) (v := .ref (P.1 27)) rfl jin_X9 (by decide) rfl jf_X9_15 (fun _ => rfl) rfl dX9_minutesOf_22 ?_
        refine j_iload_n o dX9_minutesOf_25 rfl ?_
        obtain ⟨hb6, h⟩ := h
        refine j_iald o (g := 27) (fun _ => rfl) hb6 dX9_minutesOf_26 ?_
        refine j_iadd o dX9_minutesOf_27 ?_
        refine j_istore_n o [(2, .int (x1 + (M 27 x2.toNatClampNeg))), (0, .ref (P.1 6)), (1, .int a1), (3, .int x2)] dX9_minutesOf_28 (by decide) rfl ?_
        exact j_pick [1, 2, 0, 3] rfl h)
  exact j_pick [2, 3, 1, 0] rfl h

abbrev rm_X10_signs : Room := { frames := 0, cells := 0, slots := 0, locals := 0 }
def w_X10_signs (P : jP) (a1 : Int32) (Q : Int32 → Prop) : Prop :=
  ∀ R5 : Int32 → Int32 → Prop, (∀ (x1 : Int32) (x2 : Int32), (
   (x2 < 0 → (
    Q x1
   )) ∧ (¬ x2 < 0 → (
    ∀ R25 : Int32 → Prop, (∀ (x4 : Int32), (
     R5 (x1 + x4) (x2 + (-8))
    ) → R25 x4) →
    (¬ ((a1 >>> (x2 &&& 31)) &&& 255) = 0 → (
     R25 1
    )) ∧ (((a1 >>> (x2 &&& 31)) &&& 255) = 0 → (
     R25 0
    ))
   ))
  ) → R5 x1 x2) →
  R5 0 24
set_option maxRecDepth 20000 in
theorem c_X10_signs (l : Launch) (P : jP) (a1 : Int32) (M : jM) (N : jN) (Q : Int32 → Prop) (h : w_X10_signs P a1 Q) : jC l yX10_signs cX10_signs 3 (some .int) rm_X10_signs LC [.int a1] P M N (jqi P (fun r M' N' => M = M' ∧ N = N' ∧ Q r )) := by
  refine jC_of (by decide +kernel) [(0, .int a1)] (Nat.le_of_ble_eq_true rfl) rfl (fun X o => ?_)
  obtain ⟨E, hE⟩ : ∃ E, E = jE X rm_X10_signs (jqi P (fun r M' N' => M = M' ∧ N = N' ∧ Q r )) := ⟨_, rfl⟩
  rw [← hE]
  unfold w_X10_signs at h
  refine j_iconst o (v := 0) dX10_signs_0 rfl ?_
  refine j_istore_n o [(1, .int 0), (0, .int a1)] dX10_signs_1 (by decide) rfl ?_
  refine j_bipush o (v := 24) dX10_signs_2 rfl ?_
  refine j_istore_n o [(2, .int 24), (1, .int 0), (0, .int a1)] dX10_signs_4 (by decide) rfl ?_
  replace h := h (fun (x1 : Int32) (x2 : Int32) => J X P M N 0 0 E 3 5 [(0, .int a1), (1, .int x1), (2, .int x2)] []) (by
    intro x1 x2 h
    refine j_iload_n o dX10_signs_5 rfl ?_
    refine j_if_lt o (tgt := 33) dX10_signs_6 (by decide) (fun c3 => ?_) (fun c3 => ?_)
    · replace h := h.1 c3
      refine j_iload_n o dX10_signs_33 rfl ?_
      rw [hE]
      exact j_iret o dX10_signs_34 ⟨_, rfl, rfl, rfl, rfl, h⟩
    · replace h := h.2 c3
      refine j_iload_n o dX10_signs_9 rfl ?_
      refine j_iload_n o dX10_signs_10 rfl ?_
      refine j_iload_n o dX10_signs_11 rfl ?_
      refine j_ishr o dX10_signs_12 ?_
      refine j_sipush o (v := 255) dX10_signs_13 rfl ?_
      refine j_iand o dX10_signs_16 ?_
      replace h := h (fun (x4 : Int32) => J X P M N 0 0 E 3 25 [(0, .int a1), (2, .int x2)] [.int x4, .int x1]) (by
        intro x4 h
        refine j_iadd o dX10_signs_25 ?_
        refine j_istore_n o [(1, .int (x1 + x4)), (0, .int a1), (2, .int x2)] dX10_signs_26 (by decide) rfl ?_
        refine j_iinc o (v := x2 + (-8)) [(2, .int (x2 + (-8))), (1, .int (x1 + x4)), (0, .int a1)] dX10_signs_27 rfl rfl (by decide) rfl ?_
        refine j_goto o (tgt := 5) dX10_signs_30 (by decide) ?_
        exact j_pick [2, 1, 0] rfl h)
      refine j_if_ne o (tgt := 24) dX10_signs_17 (by decide) (fun c5 => ?_) (fun c5 => ?_)
      · replace h := h.1 c5
        refine j_iconst o (v := 1) dX10_signs_24 rfl ?_
        exact j_pick [0, 2] rfl h
      · replace h := h.2 c5
        refine j_iconst o (v := 0) dX10_signs_20 rfl ?_
        refine j_goto o (tgt := 25) dX10_signs_21 (by decide) ?_
        exact j_pick [0, 2] rfl h)
  exact j_pick [2, 1, 0] rfl h

abbrev rm_X10_append : Room := { frames := 0, cells := 0, slots := 0, locals := 0 }
def w_X10_append (P : jP) (a1 : Int32) (M : jM) (Q : jM → Prop) : Prop :=
  ∀ R3 : Int32 → jM → Prop, (∀ (x1 : Int32) (M2 : jM), (
   (x1 < 0 → (
    Q M2
   )) ∧ (¬ x1 < 0 → (
    ∀ R46 : jM → Prop, (∀ (M4 : jM), (
     R3 (x1 + (-8)) M4
    ) → R46 M4) →
    (((a1 >>> (x1 &&& 31)) &&& 255) = 0 → (
     R46 M2
    )) ∧ (¬ ((a1 >>> (x1 &&& 31)) &&& 255) = 0 → (
     (160 ≤ (M2 3 1) → (
      R46 M2
     )) ∧ (¬ 160 ≤ (M2 3 1) → (
      vp_in (M2 3 1) (160) ∧
      ∀ M8 : jM, M8 = upM (upM M2 3 1 ((M2 3 1) + 1)) 17 (M2 3 1).toNatClampNeg ((a1 >>> (x1 &&& 31)) &&& 255) →
      R46 M8
     ))
    ))
   ))
  ) → R3 x1 M2) →
  R3 24 M
set_option maxRecDepth 20000 in
theorem c_X10_append (l : Launch) (P : jP) (a1 : Int32) (M : jM) (N : jN) (Q : jM → Prop) (h : w_X10_append P a1 M Q) : jC l yX10_append cX10_append 4 none rm_X10_append LC [.ref (P.1 3), .int a1] P M N (jqv P (fun M' N' => N = N' ∧ Q M' )) := by
  refine jC_of (by decide +kernel) [(0, .ref (P.1 3)), (1, .int a1)] (Nat.le_of_ble_eq_true rfl) rfl (fun X o => ?_)
  obtain ⟨E, hE⟩ : ∃ E, E = jE X rm_X10_append (jqv P (fun M' N' => N = N' ∧ Q M' )) := ⟨_, rfl⟩
  rw [← hE]
  unfold w_X10_append at h
  refine j_bipush o (v := 24) dX10_append_0 rfl ?_
  refine j_istore_n o [(2, .int 24), (0, .ref (P.1 3)), (1, .int a1)] dX10_append_2 (by decide) rfl ?_
  replace h := h (fun (x1 : Int32) (M2 : jM) => J X P M2 N 0 0 E 4 3 [(0, .ref (P.1 3)), (1, .int a1), (2, .int x1)] []) (by
    intro x1 M2 h
    refine j_iload_n o dX10_append_3 rfl ?_
    refine j_if_lt o (tgt := 52) dX10_append_4 (by decide) (fun c3 => ?_) (fun c3 => ?_)
    · replace h := h.1 c3
      rw [hE]
      exact j_vret o dX10_append_52 ⟨rfl, rfl, rfl, h⟩
    · replace h := h.2 c3
      refine j_iload_n o dX10_append_7 rfl ?_
      refine j_iload_n o dX10_append_8 rfl ?_
      refine j_ishr o dX10_append_9 ?_
      refine j_sipush o (v := 255) dX10_append_10 rfl ?_
      refine j_iand o dX10_append_13 ?_
      refine j_istore_n o [(3, .int ((a1 >>> (x1 &&& 31)) &&& 255)), (0, .ref (P.1 3)), (1, .int a1), (2, .int x1)] dX10_append_14 (by decide) rfl ?_
      refine j_iload_n o dX10_append_15 rfl ?_
      replace h := h (fun (M4 : jM) => J X P M4 N 0 0 E 4 46 [(0, .ref (P.1 3)), (1, .int a1), (2, .int x1)] []) (by
        intro M4 h
        refine j_iinc o (v := x1 + (-8)) [(2, .int (x1 + (-8))), (0, .ref (P.1 3)), (1, .int a1)] dX10_append_46 rfl rfl (by decide) rfl ?_
        refine j_goto o (tgt := 3) dX10_append_49 (by decide) ?_
        exact j_pick [1, 2, 0] rfl h)
      refine j_if_eq o (tgt := 46) dX10_append_16 (by decide) (fun c5 => ?_) (fun c5 => ?_)
      · replace h := h.1 c5
        exact j_pick [1, 2, 3] rfl h
      · replace h := h.2 c5
        refine j_aload_n o dX10_append_19 rfl ?_
        refine j_getf o (g := 3) (slot := 1) (ci := 10) (v := .int (M2 3 1)) rfl jin_X10 (by decide) rfl jf_X10_19 (fun _ => rfl) rfl dX10_append_20 ?_
        refine j_sipush o (v := 160) dX10_append_23 rfl ?_
        refine j_icmp_ge o (tgt := 46) dX10_append_26 (by decide) (fun c6 => ?_) (fun c6 => ?_)
        · replace h := h.1 c6
          exact j_pick [1, 2, 3] rfl h
        · replace h := h.2 c6
          refine j_aload_n o dX10_append_29 rfl ?_
          refine j_getf o (g := 3) (slot := 0) (ci := 10) (v := .ref (P.1 17)) rfl jin_X10 (by decide) rfl jf_X10_9 (fun _ => rfl) rfl dX10_append_30 ?_
          refine j_aload_n o dX10_append_33 rfl ?_
          refine j_dup o dX10_append_34 rfl ?_
          refine j_getf o (g := 3) (slot := 1) (ci := 10) (v := .int (M2 3 1)) rfl jin_X10 (by decide) rfl jf_X10_19 (fun _ => rfl) rfl dX10_append_35 ?_
          refine j_dup_x1 o dX10_append_38 rfl rfl ?_
          refine j_iconst o (v := 1) dX10_append_39 rfl ?_
          refine j_iadd o dX10_append_40 ?_
          refine j_putf o (M1 := upM M2 3 1 ((M2 3 1) + 1)) (N1 := N) (g := 3) (slot := 1) (ci := 10) (ty := .int) rfl jin_X10 tyX10_ok nmX10 (by decide) rfl rfl jf_X10_19 (by decide +kernel) rfl rfl (Nat.le_of_ble_eq_true rfl) (fun _ => rfl) (fun _ => rfl) (fun _ hj => upM_ne _ _ _ hj) (fun _ _ => rfl) dX10_append_41 ?_
          refine j_iload_n o dX10_append_44 rfl ?_
          obtain ⟨hb7, h⟩ := h
          refine j_iast o (g := 17) (fun _ _ _ => rfl) hb7 dX10_append_45 ?_
          refine j_nameM (fun M8 hM8 => ?_)
          replace h := h M8 hM8
          exact j_pick [1, 2, 3] rfl h)
  exact j_pick [1, 2, 0] rfl h

abbrev rm_X11_feed : Room := { frames := 1, cells := 0, slots := 0, locals := 23 }
def w_X11_feed (P : jP) (a1 : Int32) (a2 : Int32) (a3 : Int32) (a4 : Int32) (a5 : Int32) (M : jM) (Q : Int32 → jM → Prop) : Prop :=
  w_X10_signs P a1 (fun r1 =>
  w_X10_signs P a2 (fun r4 =>
  w_X10_signs P a3 (fun r7 =>
  w_X10_signs P a4 (fun r10 =>
  w_X10_signs P a5 (fun r13 =>
  (((M 3 1) + ((((r1 + r4) + r7) + r10) + r13)) ≤ 160 → (
   w_X10_append P a1 M (fun M17 =>
   w_X10_append P a2 M17 (fun M19 =>
   w_X10_append P a3 M19 (fun M21 =>
   w_X10_append P a4 M21 (fun M23 =>
   w_X10_append P a5 M23 (fun M25 =>
   Q (M25 3 1) M25)))))
  )) ∧ (¬ ((M 3 1) + ((((r1 + r4) + r7) + r10) + r13)) ≤ 160 → (
   Q (-1) M
  )))))))
set_option maxRecDepth 20000 in
theorem c_X11_feed (l : Launch) (P : jP) (a1 : Int32) (a2 : Int32) (a3 : Int32) (a4 : Int32) (a5 : Int32) (M : jM) (N : jN) (Q : Int32 → jM → Prop) (h : w_X11_feed P a1 a2 a3 a4 a5 M Q) : jC l yX11_feed cX11_feed 7 (some .int) rm_X11_feed LC [.ref (P.1 1), .int a1, .int a2, .int a3, .int a4, .int a5] P M N (jqi P (fun r M' N' => N = N' ∧ Q r M' )) := by
  refine jC_of (by decide +kernel) [(0, .ref (P.1 1)), (1, .int a1), (2, .int a2), (3, .int a3), (4, .int a4), (5, .int a5)] (Nat.le_of_ble_eq_true rfl) rfl (fun X o => ?_)
  obtain ⟨E, hE⟩ : ∃ E, E = jE X rm_X11_feed (jqi P (fun r M' N' => N = N' ∧ Q r M' )) := ⟨_, rfl⟩
  rw [← hE]
  unfold w_X11_feed at h
  refine j_iload_n o dX11_feed_0 rfl ?_
  refine j_callSi o (c_X10_signs l P a1 M N _ h) dX11_feed_1 jc_X11_113 jn_X10_signs rfl rfl rfl rfl (fun r1 Mz2 Nz3 h => ?_)
  obtain ⟨rfl, rfl, h⟩ := h
  refine j_iload_n o dX11_feed_4 rfl ?_
  refine j_callSi o (c_X10_signs l P a2 M N _ h) dX11_feed_5 jc_X11_113 jn_X10_signs rfl rfl rfl rfl (fun r4 Mz5 Nz6 h => ?_)
  obtain ⟨rfl, rfl, h⟩ := h
  refine j_iadd o dX11_feed_8 ?_
  refine j_iload_n o dX11_feed_9 rfl ?_
  refine j_callSi o (c_X10_signs l P a3 M N _ h) dX11_feed_10 jc_X11_113 jn_X10_signs rfl rfl rfl rfl (fun r7 Mz8 Nz9 h => ?_)
  obtain ⟨rfl, rfl, h⟩ := h
  refine j_iadd o dX11_feed_13 ?_
  refine j_iload o dX11_feed_14 rfl ?_
  refine j_callSi o (c_X10_signs l P a4 M N _ h) dX11_feed_16 jc_X11_113 jn_X10_signs rfl rfl rfl rfl (fun r10 Mz11 Nz12 h => ?_)
  obtain ⟨rfl, rfl, h⟩ := h
  refine j_iadd o dX11_feed_19 ?_
  refine j_iload o dX11_feed_20 rfl ?_
  refine j_callSi o (c_X10_signs l P a5 M N _ h) dX11_feed_22 jc_X11_113 jn_X10_signs rfl rfl rfl rfl (fun r13 Mz14 Nz15 h => ?_)
  obtain ⟨rfl, rfl, h⟩ := h
  refine j_iadd o dX11_feed_25 ?_
  refine j_istore o [(6, .int ((((r1 + r4) + r7) + r10) + r13)), (0, .ref (P.1 1)), (1, .int a1), (2, .int a2), (3, .int a3), (4, .int a4), (5, .int a5)] dX11_feed_26 (by decide) rfl ?_
  refine j_aload_n o dX11_feed_28 rfl ?_
  refine j_getf o (g := 1) (slot := 1) (ci := 11) (v := .ref (P.1 3)) rfl jin_X11 (by decide) rfl jf_X11_30 (fun _ => rfl) rfl dX11_feed_29 ?_
  refine j_getf o (g := 3) (slot := 1) (ci := 10) (v := .int (M 3 1)) rfl jin_X10 (by decide) rfl jf_X11_117 (fun _ => rfl) rfl dX11_feed_32 ?_
  refine j_iload o dX11_feed_35 rfl ?_
  refine j_iadd o dX11_feed_37 ?_
  refine j_sipush o (v := 160) dX11_feed_38 rfl ?_
  refine j_icmp_le o (tgt := 46) dX11_feed_41 (by decide) (fun c16 => ?_) (fun c16 => ?_)
  · replace h := h.1 c16
    refine j_aload_n o dX11_feed_46 rfl ?_
    refine j_getf o (g := 1) (slot := 1) (ci := 11) (v := .ref (P.1 3)) rfl jin_X11 (by decide) rfl jf_X11_30 (fun _ => rfl) rfl dX11_feed_47 ?_
    refine j_iload_n o dX11_feed_50 rfl ?_
    refine j_callVv (g := 3) (ci := 10) o (c_X10_append l P a1 M N _ h) dX11_feed_51 jc_X11_120 jn_X10_append rfl rfl rfl (fun _ => rfl) rfl rfl (fun M17 Nz18 h => ?_)
    obtain ⟨rfl, h⟩ := h
    refine j_aload_n o dX11_feed_54 rfl ?_
    refine j_getf o (g := 1) (slot := 1) (ci := 11) (v := .ref (P.1 3)) rfl jin_X11 (by decide) rfl jf_X11_30 (fun _ => rfl) rfl dX11_feed_55 ?_
    refine j_iload_n o dX11_feed_58 rfl ?_
    refine j_callVv (g := 3) (ci := 10) o (c_X10_append l P a2 M17 N _ h) dX11_feed_59 jc_X11_120 jn_X10_append rfl rfl rfl (fun _ => rfl) rfl rfl (fun M19 Nz20 h => ?_)
    obtain ⟨rfl, h⟩ := h
    refine j_aload_n o dX11_feed_62 rfl ?_
    refine j_getf o (g := 1) (slot := 1) (ci := 11) (v := .ref (P.1 3)) rfl jin_X11 (by decide) rfl jf_X11_30 (fun _ => rfl) rfl dX11_feed_63 ?_
    refine j_iload_n o dX11_feed_66 rfl ?_
    refine j_callVv (g := 3) (ci := 10) o (c_X10_append l P a3 M19 N _ h) dX11_feed_67 jc_X11_120 jn_X10_append rfl rfl rfl (fun _ => rfl) rfl rfl (fun M21 Nz22 h => ?_)
    obtain ⟨rfl, h⟩ := h
    refine j_aload_n o dX11_feed_70 rfl ?_
    refine j_getf o (g := 1) (slot := 1) (ci := 11) (v := .ref (P.1 3)) rfl jin_X11 (by decide) rfl jf_X11_30 (fun _ => rfl) rfl dX11_feed_71 ?_
    refine j_iload o dX11_feed_74 rfl ?_
    refine j_callVv (g := 3) (ci := 10) o (c_X10_append l P a4 M21 N _ h) dX11_feed_76 jc_X11_120 jn_X10_append rfl rfl rfl (fun _ => rfl) rfl rfl (fun M23 Nz24 h => ?_)
    obtain ⟨rfl, h⟩ := h
    refine j_aload_n o dX11_feed_79 rfl ?_
    refine j_getf o (g := 1) (slot := 1) (ci := 11) (v := .ref (P.1 3)) rfl jin_X11 (by decide) rfl jf_X11_30 (fun _ => rfl) rfl dX11_feed_80 ?_
    refine j_iload o dX11_feed_83 rfl ?_
    refine j_callVv (g := 3) (ci := 10) o (c_X10_append l P a5 M23 N _ h) dX11_feed_85 jc_X11_120 jn_X10_append rfl rfl rfl (fun _ => rfl) rfl rfl (fun M25 Nz26 h => ?_)
    obtain ⟨rfl, h⟩ := h
    refine j_aload_n o dX11_feed_88 rfl ?_
    refine j_getf o (g := 1) (slot := 1) (ci := 11) (v := .ref (P.1 3)) rfl jin_X11 (by decide) rfl jf_X11_30 (fun _ => rfl) rfl dX11_feed_89 ?_
    refine j_getf o (g := 3) (slot := 1) (ci := 10) (v := .int (M25 3 1)) rfl jin_X10 (by decide) rfl jf_X11_117 (fun _ => rfl) rfl dX11_feed_92 ?_
    rw [hE]
    exact j_iret o dX11_feed_95 ⟨_, rfl, rfl, rfl, h⟩
  · replace h := h.2 c16
    refine j_iconst o (v := (-1)) dX11_feed_44 rfl ?_
    rw [hE]
    exact j_iret o dX11_feed_45 ⟨_, rfl, rfl, rfl, h⟩

abbrev rm_X11_end : Room := { frames := 0, cells := 0, slots := 0, locals := 0 }
def w_X11_end (P : jP) (a1 : Int32) (M : jM) (Q : Int32 → jM → Prop) : Prop :=
  (a1 < 0 → (
   Q 0 M
  )) ∧ (¬ a1 < 0 → (
   (a1 ≤ (M 3 1) → (
    Q 1 (upM M 3 1 a1)
   )) ∧ (¬ a1 ≤ (M 3 1) → (
    Q 0 M
   ))
  ))
set_option maxRecDepth 20000 in
theorem c_X11_end (l : Launch) (P : jP) (a1 : Int32) (M : jM) (N : jN) (Q : Int32 → jM → Prop) (h : w_X11_end P a1 M Q) : jC l yX11_end cX11_end 2 (some .boolean) rm_X11_end LC [.ref (P.1 1), .int a1] P M N (jqi P (fun r M' N' => N = N' ∧ Q r M' )) := by
  refine jC_of (by decide +kernel) [(0, .ref (P.1 1)), (1, .int a1)] (Nat.le_of_ble_eq_true rfl) rfl (fun X o => ?_)
  obtain ⟨E, hE⟩ : ∃ E, E = jE X rm_X11_end (jqi P (fun r M' N' => N = N' ∧ Q r M' )) := ⟨_, rfl⟩
  rw [← hE]
  unfold w_X11_end at h
  refine j_iload_n o dX11_end_0 rfl ?_
  refine j_if_lt o (tgt := 15) dX11_end_1 (by decide) (fun c1 => ?_) (fun c1 => ?_)
  · replace h := h.1 c1
    refine j_iconst o (v := 0) dX11_end_15 rfl ?_
    rw [hE]
    exact j_zret o rfl dX11_end_16 ⟨_, rfl, rfl, rfl, h⟩
  · replace h := h.2 c1
    refine j_iload_n o dX11_end_4 rfl ?_
    refine j_aload_n o dX11_end_5 rfl ?_
    refine j_getf o (g := 1) (slot := 1) (ci := 11) (v := .ref (P.1 3)) rfl jin_X11 (by decide) rfl jf_X11_30 (fun _ => rfl) rfl dX11_end_6 ?_
    refine j_getf o (g := 3) (slot := 1) (ci := 10) (v := .int (M 3 1)) rfl jin_X10 (by decide) rfl jf_X11_117 (fun _ => rfl) rfl dX11_end_9 ?_
    refine j_icmp_le o (tgt := 17) dX11_end_12 (by decide) (fun c2 => ?_) (fun c2 => ?_)
    · replace h := h.1 c2
      refine j_aload_n o dX11_end_17 rfl ?_
      refine j_getf o (g := 1) (slot := 1) (ci := 11) (v := .ref (P.1 3)) rfl jin_X11 (by decide) rfl jf_X11_30 (fun _ => rfl) rfl dX11_end_18 ?_
      refine j_iload_n o dX11_end_21 rfl ?_
      refine j_putf o (M1 := upM M 3 1 a1) (N1 := N) (g := 3) (slot := 1) (ci := 10) (ty := .int) rfl jin_X10 tyX10_ok nmX10 (by decide) rfl rfl jf_X11_117 (by decide +kernel) rfl rfl (Nat.le_of_ble_eq_true rfl) (fun _ => rfl) (fun _ => rfl) (fun _ hj => upM_ne _ _ _ hj) (fun _ _ => rfl) dX11_end_22 ?_
      refine j_iconst o (v := 1) dX11_end_25 rfl ?_
      rw [hE]
      exact j_zret o rfl dX11_end_26 ⟨_, rfl, rfl, rfl, h⟩
    · replace h := h.2 c2
      refine j_iconst o (v := 0) dX11_end_15 rfl ?_
      rw [hE]
      exact j_zret o rfl dX11_end_16 ⟨_, rfl, rfl, rfl, h⟩

abbrev rm_X11_fault : Room := { frames := 47, cells := 0, slots := 0, locals := 1072 }
def w_X11_fault (P : jP) (a1 : Int32) (M : jM) (Q : Int32 → jM → Prop) : Prop :=
  (a1 < 0 → (
   Q (-2) M
  )) ∧ (¬ a1 < 0 → (
   (a1 ≤ 2 → (
    w_X7_readAs P a1 M (fun r3 M4 =>
    Q r3 M4)
   )) ∧ (¬ a1 ≤ 2 → (
    Q (-2) M
   ))
  ))
set_option maxRecDepth 20000 in
theorem c_X11_fault (l : Launch) (P : jP) (a1 : Int32) (M : jM) (N : jN) (Q : Int32 → jM → Prop) (h : w_X11_fault P a1 M Q) : jC l yX11_fault cX11_fault 2 (some .int) rm_X11_fault LC [.ref (P.1 1), .int a1] P M N (jqi P (fun r M' N' => N = N' ∧ Q r M' )) := by
  refine jC_of (by decide +kernel) [(0, .ref (P.1 1)), (1, .int a1)] (Nat.le_of_ble_eq_true rfl) rfl (fun X o => ?_)
  obtain ⟨E, hE⟩ : ∃ E, E = jE X rm_X11_fault (jqi P (fun r M' N' => N = N' ∧ Q r M' )) := ⟨_, rfl⟩
  rw [← hE]
  unfold w_X11_fault at h
  refine j_iload_n o dX11_fault_0 rfl ?_
  refine j_if_lt o (tgt := 9) dX11_fault_1 (by decide) (fun c1 => ?_) (fun c1 => ?_)
  · replace h := h.1 c1
    refine j_bipush o (v := (-2)) dX11_fault_9 rfl ?_
    refine j_goto o (tgt := 22) dX11_fault_11 (by decide) ?_
    rw [hE]
    exact j_iret o dX11_fault_22 ⟨_, rfl, rfl, rfl, h⟩
  · replace h := h.2 c1
    refine j_iload_n o dX11_fault_4 rfl ?_
    refine j_iconst o (v := 2) dX11_fault_5 rfl ?_
    refine j_icmp_le o (tgt := 14) dX11_fault_6 (by decide) (fun c2 => ?_) (fun c2 => ?_)
    · replace h := h.1 c2
      refine j_aload_n o dX11_fault_14 rfl ?_
      refine j_getf o (g := 1) (slot := 2) (ci := 11) (v := .ref (P.1 4)) rfl jin_X11 (by decide) rfl jf_X11_39 (fun _ => rfl) rfl dX11_fault_15 ?_
      refine j_iload_n o dX11_fault_18 rfl ?_
      refine j_callVi (g := 4) (ci := 7) o (c_X7_readAs l P a1 M N _ h) dX11_fault_19 jc_X11_123 jn_X7_readAs rfl rfl rfl (fun _ => rfl) rfl rfl (fun r3 M4 Nz5 h => ?_)
      obtain ⟨rfl, h⟩ := h
      rw [hE]
      exact j_iret o dX11_fault_22 ⟨_, rfl, rfl, rfl, h⟩
    · replace h := h.2 c2
      refine j_bipush o (v := (-2)) dX11_fault_9 rfl ?_
      refine j_goto o (tgt := 22) dX11_fault_11 (by decide) ?_
      rw [hE]
      exact j_iret o dX11_fault_22 ⟨_, rfl, rfl, rfl, h⟩

abbrev rm_X11_keepQuestion : Room := { frames := 3, cells := 0, slots := 0, locals := 71 }
def w_X11_keepQuestion (P : jP)  (M : jM) (Q : Int32 → jM → Prop) : Prop :=
  w_X6_added P M (fun r1 M2 =>
  (r1 = (-1) → (
   Q r1 M2
  )) ∧ (¬ r1 = (-1) → (
   ∀ R15 : Int32 → jM → Prop, (∀ (x5 : Int32) (M6 : jM), (
    ((M6 2 2) ≤ x5 → (
     Q r1 M6
    )) ∧ (¬ (M6 2 2) ≤ x5 → (
     w_X7_questionHolds P x5 M6 (fun r8 =>
     ∀ R52 : jM → Prop, (∀ (M11 : jM), (
      R15 (x5 + 1) M11
     ) → R52 M11) →
     (r8 = 0 → (
      R52 M6
     )) ∧ (¬ r8 = 0 → (
      vp_in x5 (P.2.2 1) ∧
      vp_in x5 (P.2.2 1) ∧
      ∀ M15 : jM, M15 = upM M6 39 x5.toNatClampNeg ((M6 39 x5.toNatClampNeg) ||| ((1 : Int32) <<< (r1 &&& 31))) →
      R52 M15
     )))
    ))
   ) → R15 x5 M6) →
   R15 0 M2
  )))
set_option maxRecDepth 20000 in
theorem c_X11_keepQuestion (l : Launch) (P : jP)  (M : jM) (N : jN) (Q : Int32 → jM → Prop) (h : w_X11_keepQuestion P M Q) : jC l yX11_keepQuestion cX11_keepQuestion 3 (some .int) rm_X11_keepQuestion LC [.ref (P.1 1)] P M N (jqi P (fun r M' N' => N = N' ∧ Q r M' )) := by
  refine jC_of (by decide +kernel) [(0, .ref (P.1 1))] (Nat.le_of_ble_eq_true rfl) rfl (fun X o => ?_)
  obtain ⟨E, hE⟩ : ∃ E, E = jE X rm_X11_keepQuestion (jqi P (fun r M' N' => N = N' ∧ Q r M' )) := ⟨_, rfl⟩
  rw [← hE]
  unfold w_X11_keepQuestion at h
  refine j_aload_n o dX11_keepQuestion_0 rfl ?_
  refine j_getf o (g := 1) (slot := 7) (ci := 11) (v := .ref (P.1 9)) rfl jin_X11 (by decide) rfl jf_X11_82 (fun _ => rfl) rfl dX11_keepQuestion_1 ?_
  refine j_callVi (g := 9) (ci := 6) o (c_X6_added l P M N _ h) dX11_keepQuestion_4 jc_X11_174 jn_X6_added rfl rfl rfl (fun _ => rfl) rfl rfl (fun r1 M2 Nz3 h => ?_)
  obtain ⟨rfl, h⟩ := h
  refine j_istore_n o [(1, .int r1), (0, .ref (P.1 1))] dX11_keepQuestion_7 (by decide) rfl ?_
  refine j_iload_n o dX11_keepQuestion_8 rfl ?_
  refine j_iconst o (v := (-1)) dX11_keepQuestion_9 rfl ?_
  refine j_icmp_eq o (tgt := 58) dX11_keepQuestion_10 (by decide) (fun c4 => ?_) (fun c4 => ?_)
  · replace h := h.1 c4
    refine j_iload_n o dX11_keepQuestion_58 rfl ?_
    rw [hE]
    exact j_iret o dX11_keepQuestion_59 ⟨_, rfl, rfl, rfl, h⟩
  · replace h := h.2 c4
    refine j_iconst o (v := 0) dX11_keepQuestion_13 rfl ?_
    refine j_istore_n o [(2, .int 0), (1, .int r1), (0, .ref (P.1 1))] dX11_keepQuestion_14 (by decide) rfl ?_
    replace h := h (fun (x5 : Int32) (M6 : jM) => J X P M6 N 0 0 E 3 15 [(0, .ref (P.1 1)), (1, .int r1), (2, .int x5)] []) (by
      intro x5 M6 h
      refine j_iload_n o dX11_keepQuestion_15 rfl ?_
      refine j_aload_n o dX11_keepQuestion_16 rfl ?_
      refine j_getf o (g := 1) (slot := 0) (ci := 11) (v := .ref (P.1 2)) rfl jin_X11 (by decide) rfl jf_X11_23 (fun _ => rfl) rfl dX11_keepQuestion_17 ?_
      refine j_getf o (g := 2) (slot := 2) (ci := 3) (v := .int (M6 2 2)) rfl jin_X3 (by decide) rfl jf_X11_77 (fun _ => rfl) rfl dX11_keepQuestion_20 ?_
      refine j_icmp_ge o (tgt := 58) dX11_keepQuestion_23 (by decide) (fun c7 => ?_) (fun c7 => ?_)
      · replace h := h.1 c7
        refine j_iload_n o dX11_keepQuestion_58 rfl ?_
        rw [hE]
        exact j_iret o dX11_keepQuestion_59 ⟨_, rfl, rfl, rfl, h⟩
      · replace h := h.2 c7
        refine j_aload_n o dX11_keepQuestion_26 rfl ?_
        refine j_getf o (g := 1) (slot := 2) (ci := 11) (v := .ref (P.1 4)) rfl jin_X11 (by decide) rfl jf_X11_39 (fun _ => rfl) rfl dX11_keepQuestion_27 ?_
        refine j_iload_n o dX11_keepQuestion_30 rfl ?_
        refine j_callVi (g := 4) (ci := 7) o (c_X7_questionHolds l P x5 M6 N _ h) dX11_keepQuestion_31 jc_X11_177 jn_X7_questionHolds rfl rfl rfl (fun _ => rfl) rfl rfl (fun r8 Mz9 Nz10 h => ?_)
        obtain ⟨rfl, rfl, h⟩ := h
        replace h := h (fun (M11 : jM) => J X P M11 N 0 0 E 3 52 [(0, .ref (P.1 1)), (1, .int r1), (2, .int x5)] []) (by
          intro M11 h
          refine j_iinc o (v := x5 + 1) [(2, .int (x5 + 1)), (0, .ref (P.1 1)), (1, .int r1)] dX11_keepQuestion_52 rfl rfl (by decide) rfl ?_
          refine j_goto o (tgt := 15) dX11_keepQuestion_55 (by decide) ?_
          exact j_pick [1, 2, 0] rfl h)
        refine j_if_eq o (tgt := 52) dX11_keepQuestion_34 (by decide) (fun c12 => ?_) (fun c12 => ?_)
        · replace h := h.1 c12
          exact j_pick [0, 1, 2] rfl h
        · replace h := h.2 c12
          refine j_aload_n o dX11_keepQuestion_37 rfl ?_
          refine j_getf o (g := 1) (slot := 7) (ci := 11) (v := .ref (P.1 9)) rfl jin_X11 (by decide) rfl jf_X11_82 (fun _ => rfl) rfl dX11_keepQuestion_38 ?_
          refine j_getf o (g := 9) (slot := 2) (ci := 6) (v := .ref (P.1 39)) rfl jin_X6 (by decide) rfl jf_X11_181 (fun _ => rfl) rfl dX11_keepQuestion_41 ?_
          refine j_iload_n o dX11_keepQuestion_44 rfl ?_
          refine j_dup2 o dX11_keepQuestion_45 rfl rfl ?_
          obtain ⟨hb13, h⟩ := h
          refine j_iald o (g := 39) (fun _ => rfl) hb13 dX11_keepQuestion_46 ?_
          refine j_iconst o (v := 1) dX11_keepQuestion_47 rfl ?_
          refine j_iload_n o dX11_keepQuestion_48 rfl ?_
          refine j_ishl o dX11_keepQuestion_49 ?_
          refine j_ior o dX11_keepQuestion_50 ?_
          obtain ⟨hb14, h⟩ := h
          refine j_iast o (g := 39) (fun _ _ _ => rfl) hb14 dX11_keepQuestion_51 ?_
          refine j_nameM (fun M15 hM15 => ?_)
          replace h := h M15 hM15
          exact j_pick [0, 1, 2] rfl h)
    exact j_pick [2, 1, 0] rfl h

abbrev rm_X11_lawAt : Room := { frames := 0, cells := 0, slots := 0, locals := 0 }
def w_X11_lawAt (P : jP) (a1 : Int32) (M : jM) (Q : Nat → Prop) : Prop :=
  ∀ R21 : Prop, ((
   Q 0
  ) → R21) →
  (a1 < 0 → (
   R21
  )) ∧ (¬ a1 < 0 → (
   ((M 1 10) ≤ a1 → (
    R21
   )) ∧ (¬ (M 1 10) ≤ a1 → (
    vp_in a1 (6) ∧
    Q ((M 11 a1.toNatClampNeg).toNatClampNeg)
   ))
  ))
set_option maxRecDepth 20000 in
theorem c_X11_lawAt (l : Launch) (P : jP) (a1 : Int32) (M : jM) (N : jN) (Q : Nat → Prop) (h : w_X11_lawAt P a1 M Q) : jC l yX11_lawAt cX11_lawAt 2 (some (.object "CoalForm$Law")) rm_X11_lawAt LC [.ref (P.1 1), .int a1] P M N (jqr P (fun r M' N' => M = M' ∧ N = N' ∧ Q r )) := by
  refine jC_of (by decide +kernel) [(0, .ref (P.1 1)), (1, .int a1)] (Nat.le_of_ble_eq_true rfl) rfl (fun X o => ?_)
  obtain ⟨E, hE⟩ : ∃ E, E = jE X rm_X11_lawAt (jqr P (fun r M' N' => M = M' ∧ N = N' ∧ Q r )) := ⟨_, rfl⟩
  rw [← hE]
  unfold w_X11_lawAt at h
  refine j_iload_n o dX11_lawAt_0 rfl ?_
  replace h := h (J X P M N 0 0 E 2 21 [] []) (by
    intro h
    refine j_null o dX11_lawAt_21 ?_
    rw [hE]
    rw [← jrf_0 P]
    exact j_aret o rfl (jrf_ref P _) dX11_lawAt_22 ⟨_, rfl, rfl, rfl, rfl, h⟩)
  refine j_if_lt o (tgt := 21) dX11_lawAt_1 (by decide) (fun c1 => ?_) (fun c1 => ?_)
  · replace h := h.1 c1
    exact j_pick [] rfl h
  · replace h := h.2 c1
    refine j_iload_n o dX11_lawAt_4 rfl ?_
    refine j_aload_n o dX11_lawAt_5 rfl ?_
    refine j_getf o (g := 1) (slot := 10) (ci := 11) (v := .int (M 1 10)) rfl jin_X11 (by decide) rfl jf_X11_136 (fun _ => rfl) rfl dX11_lawAt_6 ?_
    refine j_icmp_ge o (tgt := 21) dX11_lawAt_9 (by decide) (fun c2 => ?_) (fun c2 => ?_)
    · replace h := h.1 c2
      exact j_pick [] rfl h
    · replace h := h.2 c2
      refine j_aload_n o dX11_lawAt_12 rfl ?_
      refine j_getf o (g := 1) (slot := 9) (ci := 11) (v := .ref (P.1 11)) rfl jin_X11 (by decide) rfl jf_X11_95 (fun _ => rfl) rfl dX11_lawAt_13 ?_
      refine j_iload_n o dX11_lawAt_16 rfl ?_
      obtain ⟨hb3, h⟩ := h
      refine j_aaldLaw o (g := 11) (fun _ => rfl) hb3 dX11_lawAt_17 ?_
      refine j_goto o (tgt := 22) dX11_lawAt_18 (by decide) ?_
      rw [hE]
      exact j_aret o rfl (jrf_ref P _) dX11_lawAt_22 ⟨_, rfl, rfl, rfl, rfl, h⟩

abbrev rm_X11_formAt : Room := { frames := 0, cells := 0, slots := 0, locals := 0 }
def w_X11_formAt (P : jP) (a1 : Int32) (M : jM) (Q : Nat → Prop) : Prop :=
  ∀ R21 : Prop, ((
   Q 0
  ) → R21) →
  (a1 < 0 → (
   R21
  )) ∧ (¬ a1 < 0 → (
   ((M 1 12) ≤ a1 → (
    R21
   )) ∧ (¬ (M 1 12) ≤ a1 → (
    vp_in a1 (6) ∧
    Q ((M 12 a1.toNatClampNeg).toNatClampNeg)
   ))
  ))
set_option maxRecDepth 20000 in
theorem c_X11_formAt (l : Launch) (P : jP) (a1 : Int32) (M : jM) (N : jN) (Q : Nat → Prop) (h : w_X11_formAt P a1 M Q) : jC l yX11_formAt cX11_formAt 2 (some (.object "CoalForm$Form")) rm_X11_formAt LC [.ref (P.1 1), .int a1] P M N (jqr P (fun r M' N' => M = M' ∧ N = N' ∧ Q r )) := by
  refine jC_of (by decide +kernel) [(0, .ref (P.1 1)), (1, .int a1)] (Nat.le_of_ble_eq_true rfl) rfl (fun X o => ?_)
  obtain ⟨E, hE⟩ : ∃ E, E = jE X rm_X11_formAt (jqr P (fun r M' N' => M = M' ∧ N = N' ∧ Q r )) := ⟨_, rfl⟩
  rw [← hE]
  unfold w_X11_formAt at h
  refine j_iload_n o dX11_formAt_0 rfl ?_
  replace h := h (J X P M N 0 0 E 2 21 [] []) (by
    intro h
    refine j_null o dX11_formAt_21 ?_
    rw [hE]
    rw [← jrf_0 P]
    exact j_aret o rfl (jrf_ref P _) dX11_formAt_22 ⟨_, rfl, rfl, rfl, rfl, h⟩)
  refine j_if_lt o (tgt := 21) dX11_formAt_1 (by decide) (fun c1 => ?_) (fun c1 => ?_)
  · replace h := h.1 c1
    exact j_pick [] rfl h
  · replace h := h.2 c1
    refine j_iload_n o dX11_formAt_4 rfl ?_
    refine j_aload_n o dX11_formAt_5 rfl ?_
    refine j_getf o (g := 1) (slot := 12) (ci := 11) (v := .int (M 1 12)) rfl jin_X11 (by decide) rfl jf_X11_184 (fun _ => rfl) rfl dX11_formAt_6 ?_
    refine j_icmp_ge o (tgt := 21) dX11_formAt_9 (by decide) (fun c2 => ?_) (fun c2 => ?_)
    · replace h := h.1 c2
      exact j_pick [] rfl h
    · replace h := h.2 c2
      refine j_aload_n o dX11_formAt_12 rfl ?_
      refine j_getf o (g := 1) (slot := 11) (ci := 11) (v := .ref (P.1 12)) rfl jin_X11 (by decide) rfl jf_X11_101 (fun _ => rfl) rfl dX11_formAt_13 ?_
      refine j_iload_n o dX11_formAt_16 rfl ?_
      obtain ⟨hb3, h⟩ := h
      refine j_aaldForm o (g := 12) (fun _ => rfl) hb3 dX11_formAt_17 ?_
      refine j_goto o (tgt := 22) dX11_formAt_18 (by decide) ?_
      rw [hE]
      exact j_aret o rfl (jrf_ref P _) dX11_formAt_22 ⟨_, rfl, rfl, rfl, rfl, h⟩

abbrev rm_X11_clauses : Room := { frames := 1, cells := 0, slots := 0, locals := 21 }
def w_X11_clauses (P : jP) (a1 : Int32) (a2 : Int32) (M : jM) (Q : Int32 → Prop) : Prop :=
  w_X11_lawAt P a1 M (fun r1 =>
  (r1 = 0 → (
   Q (-1)
  )) ∧ (r1 ≠ 0 → (
   w_X3_isCase P a2 M (fun r5 =>
   (¬ r5 = 0 → (
    cLw P r1 = true ∧
    jin P (r1 + 2) a2 ∧
    Q (M (r1 + 2) a2.toNatClampNeg)
   )) ∧ (r5 = 0 → (
    Q (-1)
   )))
  )))
set_option maxRecDepth 20000 in
theorem c_X11_clauses (l : Launch) (P : jP) (a1 : Int32) (a2 : Int32) (M : jM) (N : jN) (Q : Int32 → Prop) (h : w_X11_clauses P a1 a2 M Q) : jC l yX11_clauses cX11_clauses 4 (some .int) rm_X11_clauses LC [.ref (P.1 1), .int a1, .int a2] P M N (jqi P (fun r M' N' => M = M' ∧ N = N' ∧ Q r )) := by
  refine jC_of (by decide +kernel) [(0, .ref (P.1 1)), (1, .int a1), (2, .int a2)] (Nat.le_of_ble_eq_true rfl) rfl (fun X o => ?_)
  obtain ⟨E, hE⟩ : ∃ E, E = jE X rm_X11_clauses (jqi P (fun r M' N' => M = M' ∧ N = N' ∧ Q r )) := ⟨_, rfl⟩
  rw [← hE]
  unfold w_X11_clauses at h
  refine j_aload_n o dX11_clauses_0 rfl ?_
  refine j_iload_n o dX11_clauses_1 rfl ?_
  refine j_callVr (g := 1) (ci := 11) o (c_X11_lawAt l P a1 M N _ h) dX11_clauses_2 jc_X11_191 jn_X11_lawAt rfl rfl rfl (fun _ => rfl) rfl rfl (fun r1 Mz2 Nz3 h => ?_)
  obtain ⟨rfl, rfl, h⟩ := h
  refine j_qstore_n o [(3, jrf P r1), (0, .ref (P.1 1)), (1, .int a1), (2, .int a2)] dX11_clauses_5 (by decide) rfl ?_
  refine j_qload_n o (g := r1) rfl dX11_clauses_6 ?_
  refine j_null2 o (tgt := 21) dX11_clauses_7 (by decide) (fun c4 => ?_) (fun c4 => ?_)
  · replace h := h.1 c4
    refine j_iconst o (v := (-1)) dX11_clauses_21 rfl ?_
    refine j_goto o (tgt := 31) dX11_clauses_22 (by decide) ?_
    rw [hE]
    exact j_iret o dX11_clauses_31 ⟨_, rfl, rfl, rfl, rfl, h⟩
  · replace h := h.2 c4
    try rw [jrf_n P c4]
    refine j_aload_n o dX11_clauses_10 rfl ?_
    refine j_getf o (g := 1) (slot := 0) (ci := 11) (v := .ref (P.1 2)) rfl jin_X11 (by decide) rfl jf_X11_23 (fun _ => rfl) rfl dX11_clauses_11 ?_
    refine j_iload_n o dX11_clauses_14 rfl ?_
    refine j_callVi (g := 2) (ci := 3) o (c_X3_isCase l P a2 M N _ h) dX11_clauses_15 jc_X11_195 jn_X3_isCase rfl rfl rfl (fun _ => rfl) rfl rfl (fun r5 Mz6 Nz7 h => ?_)
    obtain ⟨rfl, rfl, h⟩ := h
    refine j_if_ne o (tgt := 25) dX11_clauses_18 (by decide) (fun c8 => ?_) (fun c8 => ?_)
    · replace h := h.1 c8
      refine j_aload_n o dX11_clauses_25 rfl ?_
      obtain ⟨hb9, h⟩ := h
      refine j_getf o (g := r1) (slot := 2) (ci := 4) (v := .ref (P.1 (r1 + 2))) rfl jin_X4 (by decide) rfl jf_X11_158 (fun tA => LC_lw hb9 tA _ _) rfl dX11_clauses_26 ?_
      refine j_iload_n o dX11_clauses_29 rfl ?_
      obtain ⟨hb10, h⟩ := h
      obtain ⟨nnhb10, hchb10, hihb10⟩ := hb10
      refine j_iald o (g := r1 + 2) (fun tA => LC_ia hchb10 tA _ _) hihb10 dX11_clauses_30 ?_
      rw [hE]
      exact j_iret o dX11_clauses_31 ⟨_, rfl, rfl, rfl, rfl, h⟩
    · replace h := h.2 c8
      refine j_iconst o (v := (-1)) dX11_clauses_21 rfl ?_
      refine j_goto o (tgt := 31) dX11_clauses_22 (by decide) ?_
      rw [hE]
      exact j_iret o dX11_clauses_31 ⟨_, rfl, rfl, rfl, rfl, h⟩

abbrev rm_X11_hit : Room := { frames := 0, cells := 0, slots := 0, locals := 0 }
def w_X11_hit (P : jP) (a1 : Int32) (a2 : Int32) (M : jM) (Q : Int32 → Prop) : Prop :=
  (¬ a2 = (-1) → (
   (a2 < 0 → (
    Q (-1)
   )) ∧ (¬ a2 < 0 → (
    (a1 ≤ a2 → (
     Q (-1)
    )) ∧ (¬ a1 ≤ a2 → (
     ((Int32.ofNat (P.2.2 1)) ≤ a2 → (
      Q (-1)
     )) ∧ (¬ (Int32.ofNat (P.2.2 1)) ≤ a2 → (
      vp_in a2 (P.2.2 1) ∧
      Q (M 13 a2.toNatClampNeg)
     ))
    ))
   ))
  )) ∧ (a2 = (-1) → (
   Q a1
  ))
set_option maxRecDepth 20000 in
theorem c_X11_hit (l : Launch) (P : jP) (a1 : Int32) (a2 : Int32) (M : jM) (N : jN) (Q : Int32 → Prop) (h : w_X11_hit P a1 a2 M Q) : jC l yX11_hit cX11_hit 3 (some .int) rm_X11_hit LC [.ref (P.1 1), .int a1, .int a2] P M N (jqi P (fun r M' N' => M = M' ∧ N = N' ∧ Q r )) := by
  refine jC_of (by decide +kernel) [(0, .ref (P.1 1)), (1, .int a1), (2, .int a2)] (Nat.le_of_ble_eq_true rfl) rfl (fun X o => ?_)
  obtain ⟨E, hE⟩ : ∃ E, E = jE X rm_X11_hit (jqi P (fun r M' N' => M = M' ∧ N = N' ∧ Q r )) := ⟨_, rfl⟩
  rw [← hE]
  unfold w_X11_hit at h
  refine j_iload_n o dX11_hit_0 rfl ?_
  refine j_iconst o (v := (-1)) dX11_hit_1 rfl ?_
  refine j_icmp_ne o (tgt := 7) dX11_hit_2 (by decide) (fun c1 => ?_) (fun c1 => ?_)
  · replace h := h.1 c1
    refine j_iload_n o dX11_hit_7 rfl ?_
    refine j_if_lt o (tgt := 34) dX11_hit_8 (by decide) (fun c2 => ?_) (fun c2 => ?_)
    · replace h := h.1 c2
      refine j_iconst o (v := (-1)) dX11_hit_34 rfl ?_
      rw [hE]
      exact j_iret o dX11_hit_35 ⟨_, rfl, rfl, rfl, rfl, h⟩
    · replace h := h.2 c2
      refine j_iload_n o dX11_hit_11 rfl ?_
      refine j_iload_n o dX11_hit_12 rfl ?_
      refine j_icmp_ge o (tgt := 34) dX11_hit_13 (by decide) (fun c3 => ?_) (fun c3 => ?_)
      · replace h := h.1 c3
        refine j_iconst o (v := (-1)) dX11_hit_34 rfl ?_
        rw [hE]
        exact j_iret o dX11_hit_35 ⟨_, rfl, rfl, rfl, rfl, h⟩
      · replace h := h.2 c3
        refine j_iload_n o dX11_hit_16 rfl ?_
        refine j_aload_n o dX11_hit_17 rfl ?_
        refine j_getf o (g := 1) (slot := 13) (ci := 11) (v := .ref (P.1 13)) rfl jin_X11 (by decide) rfl jf_X11_105 (fun _ => rfl) rfl dX11_hit_18 ?_
        refine j_alen o (g := 13) (t0 := 0) (fun _ => rfl) (fun _ => rfl) dX11_hit_21 ?_
        refine j_icmp_ge o (tgt := 34) dX11_hit_22 (by decide) (fun c4 => ?_) (fun c4 => ?_)
        · replace h := h.1 c4
          refine j_iconst o (v := (-1)) dX11_hit_34 rfl ?_
          rw [hE]
          exact j_iret o dX11_hit_35 ⟨_, rfl, rfl, rfl, rfl, h⟩
        · replace h := h.2 c4
          refine j_aload_n o dX11_hit_25 rfl ?_
          refine j_getf o (g := 1) (slot := 13) (ci := 11) (v := .ref (P.1 13)) rfl jin_X11 (by decide) rfl jf_X11_105 (fun _ => rfl) rfl dX11_hit_26 ?_
          refine j_iload_n o dX11_hit_29 rfl ?_
          obtain ⟨hb5, h⟩ := h
          refine j_iald o (g := 13) (fun _ => rfl) hb5 dX11_hit_30 ?_
          refine j_goto o (tgt := 35) dX11_hit_31 (by decide) ?_
          rw [hE]
          exact j_iret o dX11_hit_35 ⟨_, rfl, rfl, rfl, rfl, h⟩
  · replace h := h.2 c1
    refine j_iload_n o dX11_hit_5 rfl ?_
    rw [hE]
    exact j_iret o dX11_hit_6 ⟨_, rfl, rfl, rfl, rfl, h⟩

abbrev rm_X11_gap : Room := { frames := 1, cells := 0, slots := 0, locals := 22 }
def w_X11_gap (P : jP) (a1 : Int32) (a2 : Int32) (a3 : Int32) (M : jM) (Q : Int32 → jM → Prop) : Prop :=
  w_X11_lawAt P a1 M (fun r1 =>
  (r1 = 0 → (
   Q (-1) M
  )) ∧ (r1 ≠ 0 → (
   (a2 < 0 → (
    Q (-1) M
   )) ∧ (¬ a2 < 0 → (
    (a2 ≤ 1 → (
     ∀ R29 : Int32 → Int32 → jM → Prop, (∀ (x7 : Int32) (x8 : Int32) (M9 : jM), (
      ((M9 2 2) ≤ x8 → (
       w_X11_hit P x7 a3 M9 (fun r11 =>
       Q r11 M9)
      )) ∧ (¬ (M9 2 2) ≤ x8 → (
       ∀ R82 : Int32 → jM → Prop, (∀ (x14 : Int32) (M15 : jM), (
        R29 x14 (x8 + 1) M15
       ) → R82 x14 M15) →
       ∀ R70 : Prop, ((
        vp_in x7 (P.2.2 1) ∧
        R82 (x7 + 1) (upM M9 13 x7.toNatClampNeg x8)
       ) → R70) →
       (¬ a2 = 0 → (
        cLw P r1 = true ∧
        jin P (r1 + 3) x8 ∧
        (¬ (M9 (r1 + 3) x8.toNatClampNeg) = (-1) → (
         R82 x7 M9
        )) ∧ ((M9 (r1 + 3) x8.toNatClampNeg) = (-1) → (
         R70
        ))
       )) ∧ (a2 = 0 → (
        cLw P r1 = true ∧
        w_X4_clashes P r1 x8 M9 (fun r21 =>
        (r21 = 0 → (
         R82 x7 M9
        )) ∧ (¬ r21 = 0 → (
         R70
        )))
       ))
      ))
     ) → R29 x7 x8 M9) →
     R29 0 0 M
    )) ∧ (¬ a2 ≤ 1 → (
     Q (-1) M
    ))
   ))
  )))
set_option maxRecDepth 20000 in
theorem c_X11_gap (l : Launch) (P : jP) (a1 : Int32) (a2 : Int32) (a3 : Int32) (M : jM) (N : jN) (Q : Int32 → jM → Prop) (h : w_X11_gap P a1 a2 a3 M Q) : jC l yX11_gap cX11_gap 7 (some .int) rm_X11_gap LC [.ref (P.1 1), .int a1, .int a2, .int a3] P M N (jqi P (fun r M' N' => N = N' ∧ Q r M' )) := by
  refine jC_of (by decide +kernel) [(0, .ref (P.1 1)), (1, .int a1), (2, .int a2), (3, .int a3)] (Nat.le_of_ble_eq_true rfl) rfl (fun X o => ?_)
  obtain ⟨E, hE⟩ : ∃ E, E = jE X rm_X11_gap (jqi P (fun r M' N' => N = N' ∧ Q r M' )) := ⟨_, rfl⟩
  rw [← hE]
  unfold w_X11_gap at h
  refine j_aload_n o dX11_gap_0 rfl ?_
  refine j_iload_n o dX11_gap_1 rfl ?_
  refine j_callVr (g := 1) (ci := 11) o (c_X11_lawAt l P a1 M N _ h) dX11_gap_2 jc_X11_191 jn_X11_lawAt rfl rfl rfl (fun _ => rfl) rfl rfl (fun r1 Mz2 Nz3 h => ?_)
  obtain ⟨rfl, rfl, h⟩ := h
  refine j_qstore o [(4, jrf P r1), (0, .ref (P.1 1)), (1, .int a1), (2, .int a2), (3, .int a3)] dX11_gap_5 (by decide) rfl ?_
  refine j_qload o (g := r1) rfl dX11_gap_7 ?_
  refine j_null2 o (tgt := 21) dX11_gap_9 (by decide) (fun c4 => ?_) (fun c4 => ?_)
  · replace h := h.1 c4
    refine j_iconst o (v := (-1)) dX11_gap_21 rfl ?_
    rw [hE]
    exact j_iret o dX11_gap_22 ⟨_, rfl, rfl, rfl, h⟩
  · replace h := h.2 c4
    try rw [jrf_n P c4]
    refine j_iload_n o dX11_gap_12 rfl ?_
    refine j_if_lt o (tgt := 21) dX11_gap_13 (by decide) (fun c5 => ?_) (fun c5 => ?_)
    · replace h := h.1 c5
      refine j_iconst o (v := (-1)) dX11_gap_21 rfl ?_
      rw [hE]
      exact j_iret o dX11_gap_22 ⟨_, rfl, rfl, rfl, h⟩
    · replace h := h.2 c5
      refine j_iload_n o dX11_gap_16 rfl ?_
      refine j_iconst o (v := 1) dX11_gap_17 rfl ?_
      refine j_icmp_le o (tgt := 23) dX11_gap_18 (by decide) (fun c6 => ?_) (fun c6 => ?_)
      · replace h := h.1 c6
        refine j_iconst o (v := 0) dX11_gap_23 rfl ?_
        refine j_istore o [(5, .int 0), (4, .ref (P.1 r1)), (0, .ref (P.1 1)), (1, .int a1), (2, .int a2), (3, .int a3)] dX11_gap_24 (by decide) rfl ?_
        refine j_iconst o (v := 0) dX11_gap_26 rfl ?_
        refine j_istore o [(6, .int 0), (5, .int 0), (4, .ref (P.1 r1)), (0, .ref (P.1 1)), (1, .int a1), (2, .int a2), (3, .int a3)] dX11_gap_27 (by decide) rfl ?_
        replace h := h (fun (x7 : Int32) (x8 : Int32) (M9 : jM) => J X P M9 N 0 0 E 7 29 [(0, .ref (P.1 1)), (2, .int a2), (3, .int a3), (4, .ref (P.1 r1)), (5, .int x7), (6, .int x8)] []) (by
          intro x7 x8 M9 h
          refine j_iload o dX11_gap_29 rfl ?_
          refine j_aload_n o dX11_gap_31 rfl ?_
          refine j_getf o (g := 1) (slot := 0) (ci := 11) (v := .ref (P.1 2)) rfl jin_X11 (by decide) rfl jf_X11_23 (fun _ => rfl) rfl dX11_gap_32 ?_
          refine j_getf o (g := 2) (slot := 2) (ci := 3) (v := .int (M9 2 2)) rfl jin_X3 (by decide) rfl jf_X11_77 (fun _ => rfl) rfl dX11_gap_35 ?_
          refine j_icmp_ge o (tgt := 88) dX11_gap_38 (by decide) (fun c10 => ?_) (fun c10 => ?_)
          · replace h := h.1 c10
            refine j_aload_n o dX11_gap_88 rfl ?_
            refine j_iload o dX11_gap_89 rfl ?_
            refine j_iload_n o dX11_gap_91 rfl ?_
            refine j_callVi (g := 1) (ci := 11) o (c_X11_hit l P x7 a3 M9 N _ h) dX11_gap_92 jc_X11_204 jn_X11_hit rfl rfl rfl (fun _ => rfl) rfl rfl (fun r11 Mz12 Nz13 h => ?_)
            obtain ⟨rfl, rfl, h⟩ := h
            rw [hE]
            exact j_iret o dX11_gap_95 ⟨_, rfl, rfl, rfl, h⟩
          · replace h := h.2 c10
            refine j_iload_n o dX11_gap_41 rfl ?_
            replace h := h (fun (x14 : Int32) (M15 : jM) => J X P M15 N 0 0 E 7 82 [(0, .ref (P.1 1)), (2, .int a2), (3, .int a3), (4, .ref (P.1 r1)), (5, .int x14), (6, .int x8)] []) (by
              intro x14 M15 h
              refine j_iinc o (v := x8 + 1) [(6, .int (x8 + 1)), (0, .ref (P.1 1)), (2, .int a2), (3, .int a3), (4, .ref (P.1 r1)), (5, .int x14)] dX11_gap_82 rfl rfl (by decide) rfl ?_
              refine j_goto o (tgt := 29) dX11_gap_85 (by decide) ?_
              exact j_pick [1, 2, 3, 4, 5, 0] rfl h)
            replace h := h (J X P M9 N 0 0 E 7 70 [(0, .ref (P.1 1)), (2, .int a2), (3, .int a3), (4, .ref (P.1 r1)), (5, .int x7), (6, .int x8)] []) (by
              intro h
              refine j_aload_n o dX11_gap_70 rfl ?_
              refine j_getf o (g := 1) (slot := 13) (ci := 11) (v := .ref (P.1 13)) rfl jin_X11 (by decide) rfl jf_X11_105 (fun _ => rfl) rfl dX11_gap_71 ?_
              refine j_iload o dX11_gap_74 rfl ?_
              refine j_iinc o (v := x7 + 1) [(5, .int (x7 + 1)), (0, .ref (P.1 1)), (2, .int a2), (3, .int a3), (4, .ref (P.1 r1)), (6, .int x8)] dX11_gap_76 rfl rfl (by decide) rfl ?_
              refine j_iload o dX11_gap_79 rfl ?_
              obtain ⟨hb16, h⟩ := h
              refine j_iast o (g := 13) (fun _ _ _ => rfl) hb16 dX11_gap_81 ?_
              exact j_pick [1, 2, 3, 4, 0, 5] rfl h)
            refine j_if_ne o (tgt := 58) dX11_gap_42 (by decide) (fun c17 => ?_) (fun c17 => ?_)
            · replace h := h.1 c17
              refine j_aload o dX11_gap_58 rfl ?_
              obtain ⟨hb18, h⟩ := h
              refine j_getf o (g := r1) (slot := 3) (ci := 4) (v := .ref (P.1 (r1 + 3))) rfl jin_X4 (by decide) rfl jf_X11_164 (fun tA => LC_lw hb18 tA _ _) rfl dX11_gap_60 ?_
              refine j_iload o dX11_gap_63 rfl ?_
              obtain ⟨hb19, h⟩ := h
              obtain ⟨nnhb19, hchb19, hihb19⟩ := hb19
              refine j_iald o (g := r1 + 3) (fun tA => LC_ia hchb19 tA _ _) hihb19 dX11_gap_65 ?_
              refine j_iconst o (v := (-1)) dX11_gap_66 rfl ?_
              refine j_icmp_ne o (tgt := 82) dX11_gap_67 (by decide) (fun c20 => ?_) (fun c20 => ?_)
              · replace h := h.1 c20
                exact j_pick [0, 1, 2, 3, 4, 5] rfl h
              · replace h := h.2 c20
                exact j_pick [0, 1, 2, 3, 4, 5] rfl h
            · replace h := h.2 c17
              refine j_aload o dX11_gap_45 rfl ?_
              refine j_iload o dX11_gap_47 rfl ?_
              obtain ⟨hb24, h⟩ := h
              refine j_callVi (g := r1) (ci := 4) o (c_X4_clashes l P r1 x8 M9 N _ h) dX11_gap_49 jc_X11_201 jn_X4_clashes rfl rfl rfl (fun tA => LC_lw hb24 tA _ _) rfl rfl (fun r21 Mz22 Nz23 h => ?_)
              obtain ⟨rfl, rfl, h⟩ := h
              refine j_if_eq o (tgt := 82) dX11_gap_52 (by decide) (fun c25 => ?_) (fun c25 => ?_)
              · replace h := h.1 c25
                exact j_pick [0, 1, 2, 3, 4, 5] rfl h
              · replace h := h.2 c25
                refine j_goto o (tgt := 70) dX11_gap_55 (by decide) ?_
                exact j_pick [0, 1, 2, 3, 4, 5] rfl h)
        exact j_pick [3, 5, 6, 2, 1, 0] rfl h
      · replace h := h.2 c6
        refine j_iconst o (v := (-1)) dX11_gap_21 rfl ?_
        rw [hE]
        exact j_iret o dX11_gap_22 ⟨_, rfl, rfl, rfl, h⟩

abbrev rm_X11_hitsOfUnlike : Room := { frames := 1, cells := 0, slots := 0, locals := 22 }
def w_X11_hitsOfUnlike (P : jP) (a1 : Nat) (a2 : Nat) (a3 : Int32) (M : jM) (Q : Int32 → jM → Prop) : Prop :=
  ∀ R6 : Int32 → Int32 → jM → Prop, (∀ (x1 : Int32) (x2 : Int32) (M3 : jM), (
   ((M3 2 2) ≤ x2 → (
    w_X11_hit P x1 a3 M3 (fun r5 =>
    Q r5 M3)
   )) ∧ (¬ (M3 2 2) ≤ x2 → (
    jin P a1 x2 ∧
    jin P a2 x2 ∧
    ∀ R41 : Int32 → jM → Prop, (∀ (x10 : Int32) (M11 : jM), (
     R6 x10 (x2 + 1) M11
    ) → R41 x10 M11) →
    ((M3 a1 x2.toNatClampNeg) = (M3 a2 x2.toNatClampNeg) → (
     R41 x1 M3
    )) ∧ (¬ (M3 a1 x2.toNatClampNeg) = (M3 a2 x2.toNatClampNeg) → (
     vp_in x1 (P.2.2 1) ∧
     R41 (x1 + 1) (upM M3 13 x1.toNatClampNeg x2)
    ))
   ))
  ) → R6 x1 x2 M3) →
  R6 0 0 M
set_option maxRecDepth 20000 in
theorem c_X11_hitsOfUnlike (l : Launch) (P : jP) (a1 : Nat) (a2 : Nat) (a3 : Int32) (M : jM) (N : jN) (Q : Int32 → jM → Prop) (h : w_X11_hitsOfUnlike P a1 a2 a3 M Q) : jC l yX11_hitsOfUnlike cX11_hitsOfUnlike 6 (some .int) rm_X11_hitsOfUnlike LC [.ref (P.1 1), .ref (P.1 a1), .ref (P.1 a2), .int a3] P M N (jqi P (fun r M' N' => N = N' ∧ Q r M' )) := by
  refine jC_of (by decide +kernel) [(0, .ref (P.1 1)), (1, .ref (P.1 a1)), (2, .ref (P.1 a2)), (3, .int a3)] (Nat.le_of_ble_eq_true rfl) rfl (fun X o => ?_)
  obtain ⟨E, hE⟩ : ∃ E, E = jE X rm_X11_hitsOfUnlike (jqi P (fun r M' N' => N = N' ∧ Q r M' )) := ⟨_, rfl⟩
  rw [← hE]
  unfold w_X11_hitsOfUnlike at h
  refine j_iconst o (v := 0) dX11_hitsOfUnlike_0 rfl ?_
  refine j_istore o [(4, .int 0), (0, .ref (P.1 1)), (1, .ref (P.1 a1)), (2, .ref (P.1 a2)), (3, .int a3)] dX11_hitsOfUnlike_1 (by decide) rfl ?_
  refine j_iconst o (v := 0) dX11_hitsOfUnlike_3 rfl ?_
  refine j_istore o [(5, .int 0), (4, .int 0), (0, .ref (P.1 1)), (1, .ref (P.1 a1)), (2, .ref (P.1 a2)), (3, .int a3)] dX11_hitsOfUnlike_4 (by decide) rfl ?_
  replace h := h (fun (x1 : Int32) (x2 : Int32) (M3 : jM) => J X P M3 N 0 0 E 6 6 [(0, .ref (P.1 1)), (1, .ref (P.1 a1)), (2, .ref (P.1 a2)), (3, .int a3), (4, .int x1), (5, .int x2)] []) (by
    intro x1 x2 M3 h
    refine j_iload o dX11_hitsOfUnlike_6 rfl ?_
    refine j_aload_n o dX11_hitsOfUnlike_8 rfl ?_
    refine j_getf o (g := 1) (slot := 0) (ci := 11) (v := .ref (P.1 2)) rfl jin_X11 (by decide) rfl jf_X11_23 (fun _ => rfl) rfl dX11_hitsOfUnlike_9 ?_
    refine j_getf o (g := 2) (slot := 2) (ci := 3) (v := .int (M3 2 2)) rfl jin_X3 (by decide) rfl jf_X11_77 (fun _ => rfl) rfl dX11_hitsOfUnlike_12 ?_
    refine j_icmp_ge o (tgt := 47) dX11_hitsOfUnlike_15 (by decide) (fun c4 => ?_) (fun c4 => ?_)
    · replace h := h.1 c4
      refine j_aload_n o dX11_hitsOfUnlike_47 rfl ?_
      refine j_iload o dX11_hitsOfUnlike_48 rfl ?_
      refine j_iload_n o dX11_hitsOfUnlike_50 rfl ?_
      refine j_callVi (g := 1) (ci := 11) o (c_X11_hit l P x1 a3 M3 N _ h) dX11_hitsOfUnlike_51 jc_X11_204 jn_X11_hit rfl rfl rfl (fun _ => rfl) rfl rfl (fun r5 Mz6 Nz7 h => ?_)
      obtain ⟨rfl, rfl, h⟩ := h
      rw [hE]
      exact j_iret o dX11_hitsOfUnlike_54 ⟨_, rfl, rfl, rfl, h⟩
    · replace h := h.2 c4
      refine j_aload_n o dX11_hitsOfUnlike_18 rfl ?_
      refine j_iload o dX11_hitsOfUnlike_19 rfl ?_
      obtain ⟨hb8, h⟩ := h
      obtain ⟨nnhb8, hchb8, hihb8⟩ := hb8
      refine j_iald o (g := a1) (fun tA => LC_ia hchb8 tA _ _) hihb8 dX11_hitsOfUnlike_21 ?_
      refine j_aload_n o dX11_hitsOfUnlike_22 rfl ?_
      refine j_iload o dX11_hitsOfUnlike_23 rfl ?_
      obtain ⟨hb9, h⟩ := h
      obtain ⟨nnhb9, hchb9, hihb9⟩ := hb9
      refine j_iald o (g := a2) (fun tA => LC_ia hchb9 tA _ _) hihb9 dX11_hitsOfUnlike_25 ?_
      replace h := h (fun (x10 : Int32) (M11 : jM) => J X P M11 N 0 0 E 6 41 [(0, .ref (P.1 1)), (1, .ref (P.1 a1)), (2, .ref (P.1 a2)), (3, .int a3), (4, .int x10), (5, .int x2)] []) (by
        intro x10 M11 h
        refine j_iinc o (v := x2 + 1) [(5, .int (x2 + 1)), (0, .ref (P.1 1)), (1, .ref (P.1 a1)), (2, .ref (P.1 a2)), (3, .int a3), (4, .int x10)] dX11_hitsOfUnlike_41 rfl rfl (by decide) rfl ?_
        refine j_goto o (tgt := 6) dX11_hitsOfUnlike_44 (by decide) ?_
        exact j_pick [1, 2, 3, 4, 5, 0] rfl h)
      refine j_icmp_eq o (tgt := 41) dX11_hitsOfUnlike_26 (by decide) (fun c12 => ?_) (fun c12 => ?_)
      · replace h := h.1 c12
        exact j_pick [0, 1, 2, 3, 4, 5] rfl h
      · replace h := h.2 c12
        refine j_aload_n o dX11_hitsOfUnlike_29 rfl ?_
        refine j_getf o (g := 1) (slot := 13) (ci := 11) (v := .ref (P.1 13)) rfl jin_X11 (by decide) rfl jf_X11_105 (fun _ => rfl) rfl dX11_hitsOfUnlike_30 ?_
        refine j_iload o dX11_hitsOfUnlike_33 rfl ?_
        refine j_iinc o (v := x1 + 1) [(4, .int (x1 + 1)), (0, .ref (P.1 1)), (1, .ref (P.1 a1)), (2, .ref (P.1 a2)), (3, .int a3), (5, .int x2)] dX11_hitsOfUnlike_35 rfl rfl (by decide) rfl ?_
        refine j_iload o dX11_hitsOfUnlike_38 rfl ?_
        obtain ⟨hb13, h⟩ := h
        refine j_iast o (g := 13) (fun _ _ _ => rfl) hb13 dX11_hitsOfUnlike_40 ?_
        exact j_pick [1, 2, 3, 4, 0, 5] rfl h)
  exact j_pick [2, 3, 4, 5, 1, 0] rfl h

abbrev rm_X11_sure : Room := { frames := 2, cells := 0, slots := 0, locals := 43 }
def w_X11_sure (P : jP) (a1 : Int32) (a2 : Int32) (a3 : Int32) (M : jM) (Q : Int32 → Prop) : Prop :=
  w_X11_lawAt P a1 M (fun r1 =>
  (r1 = 0 → (
   Q (-2)
  )) ∧ (r1 ≠ 0 → (
   w_X3_isKnown P a2 a3 M (fun r5 =>
   (¬ r5 = 0 → (
    w_X3_place P a2 a3 M (fun r9 =>
    cLw P r1 = true ∧
    w_X4_sureAt P r1 r9 M (fun r12 =>
    Q r12))
   )) ∧ (r5 = 0 → (
    Q (-2)
   )))
  )))
set_option maxRecDepth 20000 in
theorem c_X11_sure (l : Launch) (P : jP) (a1 : Int32) (a2 : Int32) (a3 : Int32) (M : jM) (N : jN) (Q : Int32 → Prop) (h : w_X11_sure P a1 a2 a3 M Q) : jC l yX11_sure cX11_sure 5 (some .int) rm_X11_sure LC [.ref (P.1 1), .int a1, .int a2, .int a3] P M N (jqi P (fun r M' N' => M = M' ∧ N = N' ∧ Q r )) := by
  refine jC_of (by decide +kernel) [(0, .ref (P.1 1)), (1, .int a1), (2, .int a2), (3, .int a3)] (Nat.le_of_ble_eq_true rfl) rfl (fun X o => ?_)
  obtain ⟨E, hE⟩ : ∃ E, E = jE X rm_X11_sure (jqi P (fun r M' N' => M = M' ∧ N = N' ∧ Q r )) := ⟨_, rfl⟩
  rw [← hE]
  unfold w_X11_sure at h
  refine j_aload_n o dX11_sure_0 rfl ?_
  refine j_iload_n o dX11_sure_1 rfl ?_
  refine j_callVr (g := 1) (ci := 11) o (c_X11_lawAt l P a1 M N _ h) dX11_sure_2 jc_X11_191 jn_X11_lawAt rfl rfl rfl (fun _ => rfl) rfl rfl (fun r1 Mz2 Nz3 h => ?_)
  obtain ⟨rfl, rfl, h⟩ := h
  refine j_qstore o [(4, jrf P r1), (0, .ref (P.1 1)), (1, .int a1), (2, .int a2), (3, .int a3)] dX11_sure_5 (by decide) rfl ?_
  refine j_qload o (g := r1) rfl dX11_sure_7 ?_
  refine j_null2 o (tgt := 24) dX11_sure_9 (by decide) (fun c4 => ?_) (fun c4 => ?_)
  · replace h := h.1 c4
    refine j_bipush o (v := (-2)) dX11_sure_24 rfl ?_
    refine j_goto o (tgt := 43) dX11_sure_26 (by decide) ?_
    rw [hE]
    exact j_iret o dX11_sure_43 ⟨_, rfl, rfl, rfl, rfl, h⟩
  · replace h := h.2 c4
    try rw [jrf_n P c4]
    refine j_aload_n o dX11_sure_12 rfl ?_
    refine j_getf o (g := 1) (slot := 0) (ci := 11) (v := .ref (P.1 2)) rfl jin_X11 (by decide) rfl jf_X11_23 (fun _ => rfl) rfl dX11_sure_13 ?_
    refine j_iload_n o dX11_sure_16 rfl ?_
    refine j_iload_n o dX11_sure_17 rfl ?_
    refine j_callVi (g := 2) (ci := 3) o (c_X3_isKnown l P a2 a3 M N _ h) dX11_sure_18 jc_X11_207 jn_X3_isKnown rfl rfl rfl (fun _ => rfl) rfl rfl (fun r5 Mz6 Nz7 h => ?_)
    obtain ⟨rfl, rfl, h⟩ := h
    refine j_if_ne o (tgt := 29) dX11_sure_21 (by decide) (fun c8 => ?_) (fun c8 => ?_)
    · replace h := h.1 c8
      refine j_aload o dX11_sure_29 rfl ?_
      refine j_aload_n o dX11_sure_31 rfl ?_
      refine j_getf o (g := 1) (slot := 0) (ci := 11) (v := .ref (P.1 2)) rfl jin_X11 (by decide) rfl jf_X11_23 (fun _ => rfl) rfl dX11_sure_32 ?_
      refine j_iload_n o dX11_sure_35 rfl ?_
      refine j_iload_n o dX11_sure_36 rfl ?_
      refine j_callVi (g := 2) (ci := 3) o (c_X3_place l P a2 a3 M N _ h) dX11_sure_37 jc_X11_211 jn_X3_place rfl rfl rfl (fun _ => rfl) rfl rfl (fun r9 Mz10 Nz11 h => ?_)
      obtain ⟨rfl, rfl, h⟩ := h
      obtain ⟨hb15, h⟩ := h
      refine j_callVi (g := r1) (ci := 4) o (c_X4_sureAt l P r1 r9 M N _ h) dX11_sure_40 jc_X11_214 jn_X4_sureAt rfl rfl rfl (fun tA => LC_lw hb15 tA _ _) rfl rfl (fun r12 Mz13 Nz14 h => ?_)
      obtain ⟨rfl, rfl, h⟩ := h
      rw [hE]
      exact j_iret o dX11_sure_43 ⟨_, rfl, rfl, rfl, rfl, h⟩
    · replace h := h.2 c8
      refine j_bipush o (v := (-2)) dX11_sure_24 rfl ?_
      refine j_goto o (tgt := 43) dX11_sure_26 (by decide) ?_
      rw [hE]
      exact j_iret o dX11_sure_43 ⟨_, rfl, rfl, rfl, rfl, h⟩
