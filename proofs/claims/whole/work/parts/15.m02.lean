abbrev rm_X7_node : Room := { frames := 5, cells := 0, slots := 0, locals := 105 }
def w_X7_node (P : jP) (a1 : Int32) (M : jM) (Q : Int32 → jM → Prop) : Prop :=
  w_X10_next P M (fun r1 M2 =>
  w_X7_isLetter P r1 M2 (fun r4 =>
  (¬ r4 = 0 → (
   (((upM M2 3 2 ((M2 3 2) + 1)) 4 9).toNatClampNeg) ≠ 0 ∧
   cFm P (((upM M2 3 2 ((M2 3 2) + 1)) 4 9).toNatClampNeg) = true ∧
   jin P ((((upM M2 3 2 ((M2 3 2) + 1)) 4 9).toNatClampNeg) + 1) a1 ∧
   ∀ M11 : jM, M11 = upM (upM M2 3 2 ((M2 3 2) + 1)) ((((upM M2 3 2 ((M2 3 2) + 1)) 4 9).toNatClampNeg) + 1) a1.toNatClampNeg (r1 - 97) →
   w_X10_needs P 62 M11 (fun r12 M13 =>
   (¬ r12 = 0 → (
    ((M13 4 9).toNatClampNeg) ≠ 0 ∧
    cFm P ((M13 4 9).toNatClampNeg) = true ∧
    w_X7_target P a1 M13 (fun r18 M19 =>
    jin P (((M13 4 9).toNatClampNeg) + 2) a1 ∧
    ∀ M22 : jM, M22 = upM M19 (((M13 4 9).toNatClampNeg) + 2) a1.toNatClampNeg r18 →
    ((M22 4 9).toNatClampNeg) ≠ 0 ∧
    cFm P ((M22 4 9).toNatClampNeg) = true ∧
    jin P (((M22 4 9).toNatClampNeg) + 2) a1 ∧
    ((M22 (((M22 4 9).toNatClampNeg) + 2) a1.toNatClampNeg) = (-1) → (
     Q 0 M22
    )) ∧ (¬ (M22 (((M22 4 9).toNatClampNeg) + 2) a1.toNatClampNeg) = (-1) → (
     w_X10_needs P 44 M22 (fun r27 M28 =>
     (¬ r27 = 0 → (
      ((M28 4 9).toNatClampNeg) ≠ 0 ∧
      cFm P ((M28 4 9).toNatClampNeg) = true ∧
      w_X7_target P a1 M28 (fun r33 M34 =>
      jin P (((M28 4 9).toNatClampNeg) + 3) a1 ∧
      ∀ M37 : jM, M37 = upM M34 (((M28 4 9).toNatClampNeg) + 3) a1.toNatClampNeg r33 →
      ((M37 4 9).toNatClampNeg) ≠ 0 ∧
      cFm P ((M37 4 9).toNatClampNeg) = true ∧
      jin P (((M37 4 9).toNatClampNeg) + 3) a1 ∧
      ((M37 (((M37 4 9).toNatClampNeg) + 3) a1.toNatClampNeg) = (-1) → (
       Q 0 M37
      )) ∧ (¬ (M37 (((M37 4 9).toNatClampNeg) + 3) a1.toNatClampNeg) = (-1) → (
       Q 1 M37
      )))
     )) ∧ (r27 = 0 → (
      Q 0 M28
     )))
    )))
   )) ∧ (r12 = 0 → (
    Q 0 M13
   )))
  )) ∧ (r4 = 0 → (
   w_X10_miss P (M2 3 2) M2 (fun r42 M43 =>
   jb r42 ∧
   Q r42 M43)
  ))))
set_option maxRecDepth 20000 in
theorem c_X7_node (l : Launch) (P : jP) (a1 : Int32) (M : jM) (N : jN) (Q : Int32 → jM → Prop) (h : w_X7_node P a1 M Q) : jC l yX7_node cX7_node 3 (some .boolean) rm_X7_node LC [.ref (P.1 4), .int a1] P M N (jqi P (fun r M' N' => N = N' ∧ Q r M' )) := by
  refine jC_of (by decide +kernel) [(0, .ref (P.1 4)), (1, .int a1)] (Nat.le_of_ble_eq_true rfl) rfl (fun X o => ?_)
  obtain ⟨E, hE⟩ : ∃ E, E = jE X rm_X7_node (jqi P (fun r M' N' => N = N' ∧ Q r M' )) := ⟨_, rfl⟩
  rw [← hE]
  unfold w_X7_node at h
  refine j_aload_n o dX7_node_0 rfl ?_
  refine j_getf o (g := 4) (slot := 0) (ci := 7) (v := .ref (P.1 3)) rfl jin_X7 (by decide) rfl jf_X7_34 (fun _ => rfl) rfl dX7_node_1 ?_
  refine j_callVi (g := 3) (ci := 10) o (c_X10_next l P M N _ h) dX7_node_4 jc_X7_60 jn_X10_next rfl rfl rfl (fun _ => rfl) rfl rfl (fun r1 M2 Nz3 h => ?_)
  obtain ⟨rfl, h⟩ := h
  refine j_istore_n o [(2, .int r1), (0, .ref (P.1 4)), (1, .int a1)] dX7_node_7 (by decide) rfl ?_
  refine j_aload_n o dX7_node_8 rfl ?_
  refine j_iload_n o dX7_node_9 rfl ?_
  refine j_callVi (g := 4) (ci := 7) o (c_X7_isLetter l P r1 M2 N _ h) dX7_node_10 jc_X7_108 jn_X7_isLetter rfl rfl rfl (fun _ => rfl) rfl rfl (fun r4 Mz5 Nz6 h => ?_)
  obtain ⟨rfl, rfl, h⟩ := h
  refine j_if_ne o (tgt := 31) dX7_node_13 (by decide) (fun c7 => ?_) (fun c7 => ?_)
  · replace h := h.1 c7
    refine j_aload_n o dX7_node_31 rfl ?_
    refine j_getf o (g := 4) (slot := 0) (ci := 7) (v := .ref (P.1 3)) rfl jin_X7 (by decide) rfl jf_X7_34 (fun _ => rfl) rfl dX7_node_32 ?_
    refine j_dup o dX7_node_35 rfl ?_
    refine j_getf o (g := 3) (slot := 2) (ci := 10) (v := .int (M2 3 2)) rfl jin_X10 (by decide) rfl jf_X7_64 (fun _ => rfl) rfl dX7_node_36 ?_
    refine j_iconst o (v := 1) dX7_node_39 rfl ?_
    refine j_iadd o dX7_node_40 ?_
    refine j_putf o (M1 := upM M2 3 2 ((M2 3 2) + 1)) (N1 := N) (g := 3) (slot := 2) (ci := 10) (ty := .int) rfl jin_X10 tyX10_ok nmX10 (by decide) rfl rfl jf_X7_64 (by decide +kernel) rfl rfl (Nat.le_of_ble_eq_true rfl) (fun _ => rfl) (fun _ => rfl) (fun _ hj => upM_ne _ _ _ hj) (fun _ _ => rfl) dX7_node_41 ?_
    refine j_aload_n o dX7_node_44 rfl ?_
    refine j_getf o (g := 4) (slot := 9) (ci := 7) (v := jrf P (((upM M2 3 2 ((M2 3 2) + 1)) 4 9).toNatClampNeg)) rfl jin_X7 (by decide) rfl jf_X7_30 (fun _ => rfl) rfl dX7_node_45 ?_
    obtain ⟨hq8, h⟩ := h
    rw [jrf_n P hq8]
    obtain ⟨hb9, h⟩ := h
    refine j_getf o (g := ((upM M2 3 2 ((M2 3 2) + 1)) 4 9).toNatClampNeg) (slot := 1) (ci := 2) (v := .ref (P.1 ((((upM M2 3 2 ((M2 3 2) + 1)) 4 9).toNatClampNeg) + 1))) rfl jin_X2 (by decide) rfl jf_X7_118 (fun tA => LC_fm hb9 tA _ _) rfl dX7_node_48 ?_
    refine j_iload_n o dX7_node_51 rfl ?_
    refine j_iload_n o dX7_node_52 rfl ?_
    refine j_bipush o (v := 97) dX7_node_53 rfl ?_
    refine j_isub o dX7_node_55 ?_
    obtain ⟨hb10, h⟩ := h
    obtain ⟨nnhb10, hchb10, hihb10⟩ := hb10
    refine j_iast o (g := (((upM M2 3 2 ((M2 3 2) + 1)) 4 9).toNatClampNeg) + 1) (LC_ia hchb10) hihb10 dX7_node_56 ?_
    refine j_nameM (fun M11 hM11 => ?_)
    replace h := h M11 hM11
    refine j_aload_n o dX7_node_57 rfl ?_
    refine j_getf o (g := 4) (slot := 0) (ci := 7) (v := .ref (P.1 3)) rfl jin_X7 (by decide) rfl jf_X7_34 (fun _ => rfl) rfl dX7_node_58 ?_
    refine j_bipush o (v := 62) dX7_node_61 rfl ?_
    refine j_callVi (g := 3) (ci := 10) o (c_X10_needs l P 62 M11 N _ h) dX7_node_63 jc_X7_85 jn_X10_needs rfl rfl rfl (fun _ => rfl) rfl rfl (fun r12 M13 Nz14 h => ?_)
    obtain ⟨rfl, h⟩ := h
    refine j_if_ne o (tgt := 71) dX7_node_66 (by decide) (fun c15 => ?_) (fun c15 => ?_)
    · replace h := h.1 c15
      refine j_aload_n o dX7_node_71 rfl ?_
      refine j_getf o (g := 4) (slot := 9) (ci := 7) (v := jrf P ((M13 4 9).toNatClampNeg)) rfl jin_X7 (by decide) rfl jf_X7_30 (fun _ => rfl) rfl dX7_node_72 ?_
      obtain ⟨hq16, h⟩ := h
      rw [jrf_n P hq16]
      obtain ⟨hb17, h⟩ := h
      refine j_getf o (g := (M13 4 9).toNatClampNeg) (slot := 2) (ci := 2) (v := .ref (P.1 (((M13 4 9).toNatClampNeg) + 2))) rfl jin_X2 (by decide) rfl jf_X7_120 (fun tA => LC_fm hb17 tA _ _) rfl dX7_node_75 ?_
      refine j_iload_n o dX7_node_78 rfl ?_
      refine j_aload_n o dX7_node_79 rfl ?_
      refine j_iload_n o dX7_node_80 rfl ?_
      refine j_callVi (g := 4) (ci := 7) o (c_X7_target l P a1 M13 N _ h) dX7_node_81 jc_X7_123 jn_X7_target rfl rfl rfl (fun _ => rfl) rfl rfl (fun r18 M19 Nz20 h => ?_)
      obtain ⟨rfl, h⟩ := h
      obtain ⟨hb21, h⟩ := h
      obtain ⟨nnhb21, hchb21, hihb21⟩ := hb21
      refine j_iast o (g := ((M13 4 9).toNatClampNeg) + 2) (LC_ia hchb21) hihb21 dX7_node_84 ?_
      refine j_nameM (fun M22 hM22 => ?_)
      replace h := h M22 hM22
      refine j_aload_n o dX7_node_85 rfl ?_
      refine j_getf o (g := 4) (slot := 9) (ci := 7) (v := jrf P ((M22 4 9).toNatClampNeg)) rfl jin_X7 (by decide) rfl jf_X7_30 (fun _ => rfl) rfl dX7_node_86 ?_
      obtain ⟨hq23, h⟩ := h
      rw [jrf_n P hq23]
      obtain ⟨hb24, h⟩ := h
      refine j_getf o (g := (M22 4 9).toNatClampNeg) (slot := 2) (ci := 2) (v := .ref (P.1 (((M22 4 9).toNatClampNeg) + 2))) rfl jin_X2 (by decide) rfl jf_X7_120 (fun tA => LC_fm hb24 tA _ _) rfl dX7_node_89 ?_
      refine j_iload_n o dX7_node_92 rfl ?_
      obtain ⟨hb25, h⟩ := h
      obtain ⟨nnhb25, hchb25, hihb25⟩ := hb25
      refine j_iald o (g := ((M22 4 9).toNatClampNeg) + 2) (fun tA => LC_ia hchb25 tA _ _) hihb25 dX7_node_93 ?_
      refine j_iconst o (v := (-1)) dX7_node_94 rfl ?_
      refine j_icmp_eq o (tgt := 110) dX7_node_95 (by decide) (fun c26 => ?_) (fun c26 => ?_)
      · replace h := h.1 c26
        refine j_iconst o (v := 0) dX7_node_110 rfl ?_
        rw [hE]
        exact j_zret o rfl dX7_node_111 ⟨_, rfl, rfl, rfl, h⟩
      · replace h := h.2 c26
        refine j_aload_n o dX7_node_98 rfl ?_
        refine j_getf o (g := 4) (slot := 0) (ci := 7) (v := .ref (P.1 3)) rfl jin_X7 (by decide) rfl jf_X7_34 (fun _ => rfl) rfl dX7_node_99 ?_
        refine j_bipush o (v := 44) dX7_node_102 rfl ?_
        refine j_callVi (g := 3) (ci := 10) o (c_X10_needs l P 44 M22 N _ h) dX7_node_104 jc_X7_85 jn_X10_needs rfl rfl rfl (fun _ => rfl) rfl rfl (fun r27 M28 Nz29 h => ?_)
        obtain ⟨rfl, h⟩ := h
        refine j_if_ne o (tgt := 112) dX7_node_107 (by decide) (fun c30 => ?_) (fun c30 => ?_)
        · replace h := h.1 c30
          refine j_aload_n o dX7_node_112 rfl ?_
          refine j_getf o (g := 4) (slot := 9) (ci := 7) (v := jrf P ((M28 4 9).toNatClampNeg)) rfl jin_X7 (by decide) rfl jf_X7_30 (fun _ => rfl) rfl dX7_node_113 ?_
          obtain ⟨hq31, h⟩ := h
          rw [jrf_n P hq31]
          obtain ⟨hb32, h⟩ := h
          refine j_getf o (g := (M28 4 9).toNatClampNeg) (slot := 3) (ci := 2) (v := .ref (P.1 (((M28 4 9).toNatClampNeg) + 3))) rfl jin_X2 (by decide) rfl jf_X7_127 (fun tA => LC_fm hb32 tA _ _) rfl dX7_node_116 ?_
          refine j_iload_n o dX7_node_119 rfl ?_
          refine j_aload_n o dX7_node_120 rfl ?_
          refine j_iload_n o dX7_node_121 rfl ?_
          refine j_callVi (g := 4) (ci := 7) o (c_X7_target l P a1 M28 N _ h) dX7_node_122 jc_X7_123 jn_X7_target rfl rfl rfl (fun _ => rfl) rfl rfl (fun r33 M34 Nz35 h => ?_)
          obtain ⟨rfl, h⟩ := h
          obtain ⟨hb36, h⟩ := h
          obtain ⟨nnhb36, hchb36, hihb36⟩ := hb36
          refine j_iast o (g := ((M28 4 9).toNatClampNeg) + 3) (LC_ia hchb36) hihb36 dX7_node_125 ?_
          refine j_nameM (fun M37 hM37 => ?_)
          replace h := h M37 hM37
          refine j_aload_n o dX7_node_126 rfl ?_
          refine j_getf o (g := 4) (slot := 9) (ci := 7) (v := jrf P ((M37 4 9).toNatClampNeg)) rfl jin_X7 (by decide) rfl jf_X7_30 (fun _ => rfl) rfl dX7_node_127 ?_
          obtain ⟨hq38, h⟩ := h
          rw [jrf_n P hq38]
          obtain ⟨hb39, h⟩ := h
          refine j_getf o (g := (M37 4 9).toNatClampNeg) (slot := 3) (ci := 2) (v := .ref (P.1 (((M37 4 9).toNatClampNeg) + 3))) rfl jin_X2 (by decide) rfl jf_X7_127 (fun tA => LC_fm hb39 tA _ _) rfl dX7_node_130 ?_
          refine j_iload_n o dX7_node_133 rfl ?_
          obtain ⟨hb40, h⟩ := h
          obtain ⟨nnhb40, hchb40, hihb40⟩ := hb40
          refine j_iald o (g := ((M37 4 9).toNatClampNeg) + 3) (fun tA => LC_ia hchb40 tA _ _) hihb40 dX7_node_134 ?_
          refine j_iconst o (v := (-1)) dX7_node_135 rfl ?_
          refine j_icmp_eq o (tgt := 143) dX7_node_136 (by decide) (fun c41 => ?_) (fun c41 => ?_)
          · replace h := h.1 c41
            refine j_iconst o (v := 0) dX7_node_143 rfl ?_
            rw [hE]
            exact j_zret o rfl dX7_node_144 ⟨_, rfl, rfl, rfl, h⟩
          · replace h := h.2 c41
            refine j_iconst o (v := 1) dX7_node_139 rfl ?_
            refine j_goto o (tgt := 144) dX7_node_140 (by decide) ?_
            rw [hE]
            exact j_zret o rfl dX7_node_144 ⟨_, rfl, rfl, rfl, h⟩
        · replace h := h.2 c30
          refine j_iconst o (v := 0) dX7_node_110 rfl ?_
          rw [hE]
          exact j_zret o rfl dX7_node_111 ⟨_, rfl, rfl, rfl, h⟩
    · replace h := h.2 c15
      refine j_iconst o (v := 0) dX7_node_69 rfl ?_
      rw [hE]
      exact j_zret o rfl dX7_node_70 ⟨_, rfl, rfl, rfl, h⟩
  · replace h := h.2 c7
    refine j_aload_n o dX7_node_16 rfl ?_
    refine j_getf o (g := 4) (slot := 0) (ci := 7) (v := .ref (P.1 3)) rfl jin_X7 (by decide) rfl jf_X7_34 (fun _ => rfl) rfl dX7_node_17 ?_
    refine j_aload_n o dX7_node_20 rfl ?_
    refine j_getf o (g := 4) (slot := 0) (ci := 7) (v := .ref (P.1 3)) rfl jin_X7 (by decide) rfl jf_X7_34 (fun _ => rfl) rfl dX7_node_21 ?_
    refine j_getf o (g := 3) (slot := 2) (ci := 10) (v := .int (M2 3 2)) rfl jin_X10 (by decide) rfl jf_X7_64 (fun _ => rfl) rfl dX7_node_24 ?_
    refine j_callVi (g := 3) (ci := 10) o (c_X10_miss l P (M2 3 2) M2 N _ h) dX7_node_27 jc_X7_67 jn_X10_miss rfl rfl rfl (fun _ => rfl) rfl rfl (fun r42 M43 Nz44 h => ?_)
    obtain ⟨rfl, h⟩ := h
    obtain ⟨hz45, h⟩ := h
    rw [hE]
    exact j_zret o hz45.1 dX7_node_30 ⟨_, rfl, rfl, rfl, h⟩

abbrev rm_X7_isSo : Room := { frames := 1, cells := 0, slots := 0, locals := 20 }
def w_X7_isSo (P : jP) (a1 : Int32) (a2 : Int32) (a3 : Int32) (M : jM) (Q : Int32 → Prop) : Prop :=
  ∀ R6 : Int64 → Int32 → Prop, (∀ (x1 : Int64) (x2 : Int32), (
   (a2 ≤ x2 → (
    ((lg_cmp (x1 &&& 1) 0) = 0 → (
     Q 0
    )) ∧ (¬ (lg_cmp (x1 &&& 1) 0) = 0 → (
     Q 1
    ))
   )) ∧ (¬ a2 ≤ x2 → (
    vp_in x2 (160) ∧
    vp_in x2 (160) ∧
    ∀ R137 : Int64 → Prop, (∀ (x7 : Int64), (
     R6 x7 (x2 + 1)
    ) → R137 x7) →
    (((M 18 x2.toNatClampNeg) &&& 3) = 1 → (
     R137 (x1 ^^^ 1)
    )) ∧
    (((M 18 x2.toNatClampNeg) &&& 3) = 2 → (
     R137 ((jlushr x1 1) &&& ((x1 &&& 1) ||| (-2)))
    )) ∧
    (((M 18 x2.toNatClampNeg) &&& 3) = 3 → (
     R137 ((jlushr x1 1) ||| (x1 &&& 1))
    )) ∧
    (¬ ((M 18 x2.toNatClampNeg) &&& 3) = 1 → ¬ ((M 18 x2.toNatClampNeg) &&& 3) = 2 → ¬ ((M 18 x2.toNatClampNeg) &&& 3) = 3 → (
     w_J6_bitCount_0f7a4 P ((((M 18 x2.toNatClampNeg) >>> (2 &&& 31)) &&& a3) &&& 511) (fun r11 =>
     ∀ R133 : Int64 → Int32 → Prop, (∀ (x14 : Int64) (x15 : Int32), (
      R137 (x14 ||| x15.toInt64)
     ) → R133 x14 x15) →
     (r11 < (((M 18 x2.toNatClampNeg) >>> (2 &&& 31)) >>> (9 &&& 31)) → (
      R133 (jlshl x1 1) 0
     )) ∧ (¬ r11 < (((M 18 x2.toNatClampNeg) >>> (2 &&& 31)) >>> (9 &&& 31)) → (
      R133 (jlshl x1 1) 1
     )))
    ))
   ))
  ) → R6 x1 x2) →
  R6 0 a1
set_option maxRecDepth 20000 in
theorem c_X7_isSo (l : Launch) (P : jP) (a1 : Int32) (a2 : Int32) (a3 : Int32) (M : jM) (N : jN) (Q : Int32 → Prop) (h : w_X7_isSo P a1 a2 a3 M Q) : jC l yX7_isSo cX7_isSo 11 (some .boolean) rm_X7_isSo LC [.ref (P.1 4), .int a1, .int a2, .int a3] P M N (jqi P (fun r M' N' => M = M' ∧ N = N' ∧ Q r )) := by
  refine jC_of (by decide +kernel) [(0, .ref (P.1 4)), (1, .int a1), (2, .int a2), (3, .int a3)] (Nat.le_of_ble_eq_true rfl) rfl (fun X o => ?_)
  obtain ⟨E, hE⟩ : ∃ E, E = jE X rm_X7_isSo (jqi P (fun r M' N' => M = M' ∧ N = N' ∧ Q r )) := ⟨_, rfl⟩
  rw [← hE]
  unfold w_X7_isSo at h
  refine j_lconst o (v := 0) dX7_isSo_0 rfl ?_
  refine j_lstore o [(4, .long 0), (0, .ref (P.1 4)), (1, .int a1), (2, .int a2), (3, .int a3)] dX7_isSo_1 (by decide) rfl ?_
  refine j_iload_n o dX7_isSo_3 rfl ?_
  refine j_istore o [(6, .int a1), (4, .long 0), (0, .ref (P.1 4)), (1, .int a1), (2, .int a2), (3, .int a3)] dX7_isSo_4 (by decide) rfl ?_
  replace h := h (fun (x1 : Int64) (x2 : Int32) => J X P M N 0 0 E 11 6 [(0, .ref (P.1 4)), (2, .int a2), (3, .int a3), (4, .long x1), (6, .int x2)] []) (by
    intro x1 x2 h
    refine j_iload o dX7_isSo_6 rfl ?_
    refine j_iload_n o dX7_isSo_8 rfl ?_
    refine j_icmp_ge o (tgt := 143) dX7_isSo_9 (by decide) (fun c3 => ?_) (fun c3 => ?_)
    · replace h := h.1 c3
      refine j_lload o dX7_isSo_143 rfl ?_
      refine j_lconst o (v := 1) dX7_isSo_145 rfl ?_
      refine j_land o dX7_isSo_146 ?_
      refine j_lconst o (v := 0) dX7_isSo_147 rfl ?_
      refine j_lcmp o dX7_isSo_148 ?_
      refine j_if_eq o (tgt := 156) dX7_isSo_149 (by decide) (fun c4 => ?_) (fun c4 => ?_)
      · replace h := h.1 c4
        refine j_iconst o (v := 0) dX7_isSo_156 rfl ?_
        rw [hE]
        exact j_zret o rfl dX7_isSo_157 ⟨_, rfl, rfl, rfl, rfl, h⟩
      · replace h := h.2 c4
        refine j_iconst o (v := 1) dX7_isSo_152 rfl ?_
        refine j_goto o (tgt := 157) dX7_isSo_153 (by decide) ?_
        rw [hE]
        exact j_zret o rfl dX7_isSo_157 ⟨_, rfl, rfl, rfl, rfl, h⟩
    · replace h := h.2 c3
      refine j_aload_n o dX7_isSo_12 rfl ?_
      refine j_getf o (g := 4) (slot := 2) (ci := 7) (v := .ref (P.1 18)) rfl jin_X7 (by decide) rfl jf_X7_9 (fun _ => rfl) rfl dX7_isSo_13 ?_
      refine j_iload o dX7_isSo_16 rfl ?_
      obtain ⟨hb5, h⟩ := h
      refine j_iald o (g := 18) (fun _ => rfl) hb5 dX7_isSo_18 ?_
      refine j_iconst o (v := 2) dX7_isSo_19 rfl ?_
      refine j_ishr o dX7_isSo_20 ?_
      refine j_istore o [(7, .int ((M 18 x2.toNatClampNeg) >>> (2 &&& 31))), (0, .ref (P.1 4)), (2, .int a2), (3, .int a3), (4, .long x1), (6, .int x2)] dX7_isSo_21 (by decide) rfl ?_
      refine j_lload o dX7_isSo_23 rfl ?_
      refine j_lconst o (v := 1) dX7_isSo_25 rfl ?_
      refine j_land o dX7_isSo_26 ?_
      refine j_lstore o [(8, .long (x1 &&& 1)), (7, .int ((M 18 x2.toNatClampNeg) >>> (2 &&& 31))), (0, .ref (P.1 4)), (2, .int a2), (3, .int a3), (4, .long x1), (6, .int x2)] dX7_isSo_27 (by decide) rfl ?_
      refine j_aload_n o dX7_isSo_29 rfl ?_
      refine j_getf o (g := 4) (slot := 2) (ci := 7) (v := .ref (P.1 18)) rfl jin_X7 (by decide) rfl jf_X7_9 (fun _ => rfl) rfl dX7_isSo_30 ?_
      refine j_iload o dX7_isSo_33 rfl ?_
      obtain ⟨hb6, h⟩ := h
      refine j_iald o (g := 18) (fun _ => rfl) hb6 dX7_isSo_35 ?_
      refine j_iconst o (v := 3) dX7_isSo_36 rfl ?_
      refine j_iand o dX7_isSo_37 ?_
      replace h := h (fun (x7 : Int64) => J X P M N 0 0 E 11 137 [(0, .ref (P.1 4)), (2, .int a2), (3, .int a3), (4, .long x7), (6, .int x2)] []) (by
        intro x7 h
        refine j_iinc o (v := x2 + 1) [(6, .int (x2 + 1)), (0, .ref (P.1 4)), (2, .int a2), (3, .int a3), (4, .long x7)] dX7_isSo_137 rfl rfl (by decide) rfl ?_
        refine j_goto o (tgt := 6) dX7_isSo_140 (by decide) ?_
        exact j_pick [1, 2, 3, 4, 0] rfl h)
      refine j_case o (off := 26) (v := 1) (tgt := 64) dX7_isSo_38 (by decide) (by decide) (fun c8 => ?_) (fun c8 => ?_)
      · replace h := h.1 c8
        refine j_lload o dX7_isSo_64 rfl ?_
        refine j_lconst o (v := 1) dX7_isSo_66 rfl ?_
        refine j_lxor o dX7_isSo_67 ?_
        refine j_lstore o [(4, .long (x1 ^^^ 1)), (8, .long (x1 &&& 1)), (7, .int ((M 18 x2.toNatClampNeg) >>> (2 &&& 31))), (0, .ref (P.1 4)), (2, .int a2), (3, .int a3), (6, .int x2)] dX7_isSo_68 (by decide) rfl ?_
        refine j_goto o (tgt := 137) dX7_isSo_70 (by decide) ?_
        exact j_pick [3, 4, 5, 0, 6] rfl h
      replace h := h.2
      refine j_case o (off := 35) (v := 2) (tgt := 73) dX7_isSo_38 (by decide) (by decide) (fun c9 => ?_) (fun c9 => ?_)
      · replace h := h.1 c9
        refine j_lload o dX7_isSo_73 rfl ?_
        refine j_iconst o (v := 1) dX7_isSo_75 rfl ?_
        refine j_lushr o dX7_isSo_76 ?_
        refine j_lload o dX7_isSo_77 rfl ?_
        refine j_ldc2 o jk_X7_149 dX7_isSo_79 ?_
        refine j_lor o dX7_isSo_82 ?_
        refine j_land o dX7_isSo_83 ?_
        refine j_lstore o [(4, .long ((jlushr x1 1) &&& ((x1 &&& 1) ||| (-2)))), (8, .long (x1 &&& 1)), (7, .int ((M 18 x2.toNatClampNeg) >>> (2 &&& 31))), (0, .ref (P.1 4)), (2, .int a2), (3, .int a3), (6, .int x2)] dX7_isSo_84 (by decide) rfl ?_
        refine j_goto o (tgt := 137) dX7_isSo_86 (by decide) ?_
        exact j_pick [3, 4, 5, 0, 6] rfl h
      replace h := h.2
      refine j_case o (off := 51) (v := 3) (tgt := 89) dX7_isSo_38 (by decide) (by decide) (fun c10 => ?_) (fun c10 => ?_)
      · replace h := h.1 c10
        refine j_lload o dX7_isSo_89 rfl ?_
        refine j_iconst o (v := 1) dX7_isSo_91 rfl ?_
        refine j_lushr o dX7_isSo_92 ?_
        refine j_lload o dX7_isSo_93 rfl ?_
        refine j_lor o dX7_isSo_95 ?_
        refine j_lstore o [(4, .long ((jlushr x1 1) ||| (x1 &&& 1))), (8, .long (x1 &&& 1)), (7, .int ((M 18 x2.toNatClampNeg) >>> (2 &&& 31))), (0, .ref (P.1 4)), (2, .int a2), (3, .int a3), (6, .int x2)] dX7_isSo_96 (by decide) rfl ?_
        refine j_goto o (tgt := 137) dX7_isSo_98 (by decide) ?_
        exact j_pick [3, 4, 5, 0, 6] rfl h
      replace h := h.2
      replace h := h c8 c9 c10
      refine j_caseD o (tgt := 101) dX7_isSo_38 (sw_out_1_3 c8 c9 c10) (by decide) ?_
      refine j_iload o dX7_isSo_101 rfl ?_
      refine j_iload_n o dX7_isSo_103 rfl ?_
      refine j_iand o dX7_isSo_104 ?_
      refine j_sipush o (v := 511) dX7_isSo_105 rfl ?_
      refine j_iand o dX7_isSo_108 ?_
      refine j_callSi o (c_J6_bitCount_0f7a4 l P ((((M 18 x2.toNatClampNeg) >>> (2 &&& 31)) &&& a3) &&& 511) M N _ h) dX7_isSo_109 jc_X7_151 jn_J6_bitCount_0f7a4 rfl rfl rfl rfl (fun r11 Mz12 Nz13 h => ?_)
      obtain ⟨rfl, rfl, h⟩ := h
      refine j_istore o [(10, .int r11), (8, .long (x1 &&& 1)), (7, .int ((M 18 x2.toNatClampNeg) >>> (2 &&& 31))), (0, .ref (P.1 4)), (2, .int a2), (3, .int a3), (4, .long x1), (6, .int x2)] dX7_isSo_112 (by decide) rfl ?_
      refine j_lload o dX7_isSo_114 rfl ?_
      refine j_iconst o (v := 1) dX7_isSo_116 rfl ?_
      refine j_lshl o dX7_isSo_117 ?_
      refine j_iload o dX7_isSo_118 rfl ?_
      refine j_iload o dX7_isSo_120 rfl ?_
      refine j_bipush o (v := 9) dX7_isSo_122 rfl ?_
      refine j_ishr o dX7_isSo_124 ?_
      replace h := h (fun (x14 : Int64) (x15 : Int32) => J X P M N 0 0 E 11 133 [(0, .ref (P.1 4)), (2, .int a2), (3, .int a3), (6, .int x2)] [.int x15, .long x14]) (by
        intro x14 x15 h
        refine j_i2l o dX7_isSo_133 ?_
        refine j_lor o dX7_isSo_134 ?_
        refine j_lstore o [(4, .long (x14 ||| x15.toInt64)), (0, .ref (P.1 4)), (2, .int a2), (3, .int a3), (6, .int x2)] dX7_isSo_135 (by decide) rfl ?_
        exact j_pick [1, 2, 3, 0, 4] rfl h)
      refine j_icmp_lt o (tgt := 132) dX7_isSo_125 (by decide) (fun c16 => ?_) (fun c16 => ?_)
      · replace h := h.1 c16
        refine j_iconst o (v := 0) dX7_isSo_132 rfl ?_
        exact j_pick [3, 4, 5, 7] rfl h
      · replace h := h.2 c16
        refine j_iconst o (v := 1) dX7_isSo_128 rfl ?_
        refine j_goto o (tgt := 133) dX7_isSo_129 (by decide) ?_
        exact j_pick [3, 4, 5, 7] rfl h)
  exact j_pick [2, 4, 5, 1, 0] rfl h

abbrev rm_X7_clausesThatHold : Room := { frames := 2, cells := 0, slots := 0, locals := 50 }
def w_X7_clausesThatHold (P : jP) (a1 : Int32) (M : jM) (Q : Int32 → Prop) : Prop :=
  ∀ R4 : Int32 → Int32 → Prop, (∀ (x1 : Int32) (x2 : Int32), (
   ((M 4 4) ≤ x2 → (
    Q x1
   )) ∧ (¬ (M 4 4) ≤ x2 → (
    vp_in x2 (12) ∧
    vp_in x2 (12) ∧
    ∀ R52 : Int32 → Prop, (∀ (x6 : Int32), (
     ∀ R85 : Int32 → Prop, (∀ (x7 : Int32), (
      R4 x7 (x2 + 1)
     ) → R85 x7) →
     (¬ x6 = 0 → (
      R85 x1
     )) ∧ (x6 = 0 → (
      vp_in x2 (12) ∧
      vp_in x2 (12) ∧
      w_X7_isSo P (M 20 x2.toNatClampNeg) (M 21 x2.toNatClampNeg) a1 M (fun r11 =>
      (r11 = 0 → (
       R85 x1
      )) ∧ (¬ r11 = 0 → (
       R85 (x1 ||| ((1 : Int32) <<< (x2 &&& 31)))
      )))
     ))
    ) → R52 x6) →
    ((M 22 x2.toNatClampNeg) ≤ (M 21 x2.toNatClampNeg) → (
     R52 0
    )) ∧ (¬ (M 22 x2.toNatClampNeg) ≤ (M 21 x2.toNatClampNeg) → (
     vp_in x2 (12) ∧
     vp_in x2 (12) ∧
     w_X7_isSo P (M 21 x2.toNatClampNeg) (M 22 x2.toNatClampNeg) a1 M (fun r18 =>
     (r18 = 0 → (
      R52 0
     )) ∧ (¬ r18 = 0 → (
      R52 1
     )))
    ))
   ))
  ) → R4 x1 x2) →
  R4 0 0
set_option maxRecDepth 20000 in
theorem c_X7_clausesThatHold (l : Launch) (P : jP) (a1 : Int32) (M : jM) (N : jN) (Q : Int32 → Prop) (h : w_X7_clausesThatHold P a1 M Q) : jC l yX7_clausesThatHold cX7_clausesThatHold 5 (some .int) rm_X7_clausesThatHold LC [.ref (P.1 4), .int a1] P M N (jqi P (fun r M' N' => M = M' ∧ N = N' ∧ Q r )) := by
  refine jC_of (by decide +kernel) [(0, .ref (P.1 4)), (1, .int a1)] (Nat.le_of_ble_eq_true rfl) rfl (fun X o => ?_)
  obtain ⟨E, hE⟩ : ∃ E, E = jE X rm_X7_clausesThatHold (jqi P (fun r M' N' => M = M' ∧ N = N' ∧ Q r )) := ⟨_, rfl⟩
  rw [← hE]
  unfold w_X7_clausesThatHold at h
  refine j_iconst o (v := 0) dX7_clausesThatHold_0 rfl ?_
  refine j_istore_n o [(2, .int 0), (0, .ref (P.1 4)), (1, .int a1)] dX7_clausesThatHold_1 (by decide) rfl ?_
  refine j_iconst o (v := 0) dX7_clausesThatHold_2 rfl ?_
  refine j_istore_n o [(3, .int 0), (2, .int 0), (0, .ref (P.1 4)), (1, .int a1)] dX7_clausesThatHold_3 (by decide) rfl ?_
  replace h := h (fun (x1 : Int32) (x2 : Int32) => J X P M N 0 0 E 5 4 [(0, .ref (P.1 4)), (1, .int a1), (2, .int x1), (3, .int x2)] []) (by
    intro x1 x2 h
    refine j_iload_n o dX7_clausesThatHold_4 rfl ?_
    refine j_aload_n o dX7_clausesThatHold_5 rfl ?_
    refine j_getf o (g := 4) (slot := 4) (ci := 7) (v := .int (M 4 4)) rfl jin_X7 (by decide) rfl jf_X7_50 (fun _ => rfl) rfl dX7_clausesThatHold_6 ?_
    refine j_icmp_ge o (tgt := 91) dX7_clausesThatHold_9 (by decide) (fun c3 => ?_) (fun c3 => ?_)
    · replace h := h.1 c3
      refine j_iload_n o dX7_clausesThatHold_91 rfl ?_
      rw [hE]
      exact j_iret o dX7_clausesThatHold_92 ⟨_, rfl, rfl, rfl, rfl, h⟩
    · replace h := h.2 c3
      refine j_aload_n o dX7_clausesThatHold_12 rfl ?_
      refine j_getf o (g := 4) (slot := 7) (ci := 7) (v := .ref (P.1 21)) rfl jin_X7 (by decide) rfl jf_X7_21 (fun _ => rfl) rfl dX7_clausesThatHold_13 ?_
      refine j_iload_n o dX7_clausesThatHold_16 rfl ?_
      obtain ⟨hb4, h⟩ := h
      refine j_iald o (g := 21) (fun _ => rfl) hb4 dX7_clausesThatHold_17 ?_
      refine j_aload_n o dX7_clausesThatHold_18 rfl ?_
      refine j_getf o (g := 4) (slot := 8) (ci := 7) (v := .ref (P.1 22)) rfl jin_X7 (by decide) rfl jf_X7_24 (fun _ => rfl) rfl dX7_clausesThatHold_19 ?_
      refine j_iload_n o dX7_clausesThatHold_22 rfl ?_
      obtain ⟨hb5, h⟩ := h
      refine j_iald o (g := 22) (fun _ => rfl) hb5 dX7_clausesThatHold_23 ?_
      replace h := h (fun (x6 : Int32) => J X P M N 0 0 E 5 52 [(0, .ref (P.1 4)), (1, .int a1), (2, .int x1), (3, .int x2)] [.int x6]) (by
        intro x6 h
        refine j_istore o [(4, .int x6), (0, .ref (P.1 4)), (1, .int a1), (2, .int x1), (3, .int x2)] dX7_clausesThatHold_52 (by decide) rfl ?_
        refine j_iload o dX7_clausesThatHold_54 rfl ?_
        replace h := h (fun (x7 : Int32) => J X P M N 0 0 E 5 85 [(0, .ref (P.1 4)), (1, .int a1), (2, .int x7), (3, .int x2)] []) (by
          intro x7 h
          refine j_iinc o (v := x2 + 1) [(3, .int (x2 + 1)), (0, .ref (P.1 4)), (1, .int a1), (2, .int x7)] dX7_clausesThatHold_85 rfl rfl (by decide) rfl ?_
          refine j_goto o (tgt := 4) dX7_clausesThatHold_88 (by decide) ?_
          exact j_pick [1, 2, 3, 0] rfl h)
        refine j_if_ne o (tgt := 85) dX7_clausesThatHold_56 (by decide) (fun c8 => ?_) (fun c8 => ?_)
        · replace h := h.1 c8
          exact j_pick [1, 2, 3, 4] rfl h
        · replace h := h.2 c8
          refine j_aload_n o dX7_clausesThatHold_59 rfl ?_
          refine j_aload_n o dX7_clausesThatHold_60 rfl ?_
          refine j_getf o (g := 4) (slot := 6) (ci := 7) (v := .ref (P.1 20)) rfl jin_X7 (by decide) rfl jf_X7_18 (fun _ => rfl) rfl dX7_clausesThatHold_61 ?_
          refine j_iload_n o dX7_clausesThatHold_64 rfl ?_
          obtain ⟨hb9, h⟩ := h
          refine j_iald o (g := 20) (fun _ => rfl) hb9 dX7_clausesThatHold_65 ?_
          refine j_aload_n o dX7_clausesThatHold_66 rfl ?_
          refine j_getf o (g := 4) (slot := 7) (ci := 7) (v := .ref (P.1 21)) rfl jin_X7 (by decide) rfl jf_X7_21 (fun _ => rfl) rfl dX7_clausesThatHold_67 ?_
          refine j_iload_n o dX7_clausesThatHold_70 rfl ?_
          obtain ⟨hb10, h⟩ := h
          refine j_iald o (g := 21) (fun _ => rfl) hb10 dX7_clausesThatHold_71 ?_
          refine j_iload_n o dX7_clausesThatHold_72 rfl ?_
          refine j_callVi (g := 4) (ci := 7) o (c_X7_isSo l P (M 20 x2.toNatClampNeg) (M 21 x2.toNatClampNeg) a1 M N _ h) dX7_clausesThatHold_73 jc_X7_145 jn_X7_isSo rfl rfl rfl (fun _ => rfl) rfl rfl (fun r11 Mz12 Nz13 h => ?_)
          obtain ⟨rfl, rfl, h⟩ := h
          refine j_if_eq o (tgt := 85) dX7_clausesThatHold_76 (by decide) (fun c14 => ?_) (fun c14 => ?_)
          · replace h := h.1 c14
            exact j_pick [1, 2, 3, 4] rfl h
          · replace h := h.2 c14
            refine j_iload_n o dX7_clausesThatHold_79 rfl ?_
            refine j_iconst o (v := 1) dX7_clausesThatHold_80 rfl ?_
            refine j_iload_n o dX7_clausesThatHold_81 rfl ?_
            refine j_ishl o dX7_clausesThatHold_82 ?_
            refine j_ior o dX7_clausesThatHold_83 ?_
            refine j_istore_n o [(2, .int (x1 ||| ((1 : Int32) <<< (x2 &&& 31)))), (4, .int x6), (0, .ref (P.1 4)), (1, .int a1), (3, .int x2)] dX7_clausesThatHold_84 (by decide) rfl ?_
            exact j_pick [2, 3, 0, 4] rfl h)
      refine j_icmp_ge o (tgt := 51) dX7_clausesThatHold_24 (by decide) (fun c15 => ?_) (fun c15 => ?_)
      · replace h := h.1 c15
        refine j_iconst o (v := 0) dX7_clausesThatHold_51 rfl ?_
        exact j_pick [0, 1, 2, 3] rfl h
      · replace h := h.2 c15
        refine j_aload_n o dX7_clausesThatHold_27 rfl ?_
        refine j_aload_n o dX7_clausesThatHold_28 rfl ?_
        refine j_getf o (g := 4) (slot := 7) (ci := 7) (v := .ref (P.1 21)) rfl jin_X7 (by decide) rfl jf_X7_21 (fun _ => rfl) rfl dX7_clausesThatHold_29 ?_
        refine j_iload_n o dX7_clausesThatHold_32 rfl ?_
        obtain ⟨hb16, h⟩ := h
        refine j_iald o (g := 21) (fun _ => rfl) hb16 dX7_clausesThatHold_33 ?_
        refine j_aload_n o dX7_clausesThatHold_34 rfl ?_
        refine j_getf o (g := 4) (slot := 8) (ci := 7) (v := .ref (P.1 22)) rfl jin_X7 (by decide) rfl jf_X7_24 (fun _ => rfl) rfl dX7_clausesThatHold_35 ?_
        refine j_iload_n o dX7_clausesThatHold_38 rfl ?_
        obtain ⟨hb17, h⟩ := h
        refine j_iald o (g := 22) (fun _ => rfl) hb17 dX7_clausesThatHold_39 ?_
        refine j_iload_n o dX7_clausesThatHold_40 rfl ?_
        refine j_callVi (g := 4) (ci := 7) o (c_X7_isSo l P (M 21 x2.toNatClampNeg) (M 22 x2.toNatClampNeg) a1 M N _ h) dX7_clausesThatHold_41 jc_X7_145 jn_X7_isSo rfl rfl rfl (fun _ => rfl) rfl rfl (fun r18 Mz19 Nz20 h => ?_)
        obtain ⟨rfl, rfl, h⟩ := h
        refine j_if_eq o (tgt := 51) dX7_clausesThatHold_44 (by decide) (fun c21 => ?_) (fun c21 => ?_)
        · replace h := h.1 c21
          refine j_iconst o (v := 0) dX7_clausesThatHold_51 rfl ?_
          exact j_pick [0, 1, 2, 3] rfl h
        · replace h := h.2 c21
          refine j_iconst o (v := 1) dX7_clausesThatHold_47 rfl ?_
          refine j_goto o (tgt := 52) dX7_clausesThatHold_48 (by decide) ?_
          exact j_pick [0, 1, 2, 3] rfl h)
  exact j_pick [2, 3, 1, 0] rfl h

abbrev rm_X7_questionHolds : Room := { frames := 2, cells := 0, slots := 0, locals := 50 }
def w_X7_questionHolds (P : jP) (a1 : Int32) (M : jM) (Q : Int32 → Prop) : Prop :=
  w_X7_isSo P 0 (M 4 3) a1 M (fun r1 =>
  jb r1 ∧
  Q r1)
set_option maxRecDepth 20000 in
theorem c_X7_questionHolds (l : Launch) (P : jP) (a1 : Int32) (M : jM) (N : jN) (Q : Int32 → Prop) (h : w_X7_questionHolds P a1 M Q) : jC l yX7_questionHolds cX7_questionHolds 2 (some .boolean) rm_X7_questionHolds LC [.ref (P.1 4), .int a1] P M N (jqi P (fun r M' N' => M = M' ∧ N = N' ∧ Q r )) := by
  refine jC_of (by decide +kernel) [(0, .ref (P.1 4)), (1, .int a1)] (Nat.le_of_ble_eq_true rfl) rfl (fun X o => ?_)
  obtain ⟨E, hE⟩ : ∃ E, E = jE X rm_X7_questionHolds (jqi P (fun r M' N' => M = M' ∧ N = N' ∧ Q r )) := ⟨_, rfl⟩
  rw [← hE]
  unfold w_X7_questionHolds at h
  refine j_aload_n o dX7_questionHolds_0 rfl ?_
  refine j_iconst o (v := 0) dX7_questionHolds_1 rfl ?_
  refine j_aload_n o dX7_questionHolds_2 rfl ?_
  refine j_getf o (g := 4) (slot := 3) (ci := 7) (v := .int (M 4 3)) rfl jin_X7 (by decide) rfl jf_X7_47 (fun _ => rfl) rfl dX7_questionHolds_3 ?_
  refine j_iload_n o dX7_questionHolds_6 rfl ?_
  refine j_callVi (g := 4) (ci := 7) o (c_X7_isSo l P 0 (M 4 3) a1 M N _ h) dX7_questionHolds_7 jc_X7_145 jn_X7_isSo rfl rfl rfl (fun _ => rfl) rfl rfl (fun r1 Mz2 Nz3 h => ?_)
  obtain ⟨rfl, rfl, h⟩ := h
  obtain ⟨hz4, h⟩ := h
  rw [hE]
  exact j_zret o hz4.1 dX7_questionHolds_10 ⟨_, rfl, rfl, rfl, rfl, h⟩

abbrev rm_X8_added : Room := { frames := 0, cells := 0, slots := 0, locals := 0 }
def w_X8_added (P : jP) (a1 : Int32) (a2 : Int32) (M : jM) (Q : Int32 → jM → Prop) : Prop :=
  ((M 10 0) < 20 → (
   vp_in (M 10 0) (20) ∧
   vp_in ((upM M 43 (M 10 0).toNatClampNeg a1) 10 0) (20) ∧
   ∀ M4 : jM, M4 = upM (upM M 43 (M 10 0).toNatClampNeg a1) 44 ((upM M 43 (M 10 0).toNatClampNeg a1) 10 0).toNatClampNeg a2 →
   Q ((upM M4 10 0 ((M4 10 0) + 1)) 10 0) (upM M4 10 0 ((M4 10 0) + 1))
  )) ∧ (¬ (M 10 0) < 20 → (
   Q (-1) M
  ))
set_option maxRecDepth 20000 in
theorem c_X8_added (l : Launch) (P : jP) (a1 : Int32) (a2 : Int32) (M : jM) (N : jN) (Q : Int32 → jM → Prop) (h : w_X8_added P a1 a2 M Q) : jC l yX8_added cX8_added 3 (some .int) rm_X8_added LC [.ref (P.1 10), .int a1, .int a2] P M N (jqi P (fun r M' N' => N = N' ∧ Q r M' )) := by
  refine jC_of (by decide +kernel) [(0, .ref (P.1 10)), (1, .int a1), (2, .int a2)] (Nat.le_of_ble_eq_true rfl) rfl (fun X o => ?_)
  obtain ⟨E, hE⟩ : ∃ E, E = jE X rm_X8_added (jqi P (fun r M' N' => N = N' ∧ Q r M' )) := ⟨_, rfl⟩
  rw [← hE]
  unfold w_X8_added at h
  refine j_aload_n o dX8_added_0 rfl ?_
  refine j_getf o (g := 10) (slot := 0) (ci := 8) (v := .int (M 10 0)) rfl jin_X8 (by decide) rfl jf_X8_18 (fun _ => rfl) rfl dX8_added_1 ?_
  refine j_bipush o (v := 20) dX8_added_4 rfl ?_
  refine j_icmp_lt o (tgt := 11) dX8_added_6 (by decide) (fun c1 => ?_) (fun c1 => ?_)
  · replace h := h.1 c1
    refine j_aload_n o dX8_added_11 rfl ?_
    refine j_getf o (g := 10) (slot := 1) (ci := 8) (v := .ref (P.1 43)) rfl jin_X8 (by decide) rfl jf_X8_9 (fun _ => rfl) rfl dX8_added_12 ?_
    refine j_aload_n o dX8_added_15 rfl ?_
    refine j_getf o (g := 10) (slot := 0) (ci := 8) (v := .int (M 10 0)) rfl jin_X8 (by decide) rfl jf_X8_18 (fun _ => rfl) rfl dX8_added_16 ?_
    refine j_iload_n o dX8_added_19 rfl ?_
    obtain ⟨hb2, h⟩ := h
    refine j_iast o (g := 43) (fun _ _ _ => rfl) hb2 dX8_added_20 ?_
    refine j_aload_n o dX8_added_21 rfl ?_
    refine j_getf o (g := 10) (slot := 2) (ci := 8) (v := .ref (P.1 44)) rfl jin_X8 (by decide) rfl jf_X8_15 (fun _ => rfl) rfl dX8_added_22 ?_
    refine j_aload_n o dX8_added_25 rfl ?_
    refine j_getf o (g := 10) (slot := 0) (ci := 8) (v := .int ((upM M 43 (M 10 0).toNatClampNeg a1) 10 0)) rfl jin_X8 (by decide) rfl jf_X8_18 (fun _ => rfl) rfl dX8_added_26 ?_
    refine j_iload_n o dX8_added_29 rfl ?_
    obtain ⟨hb3, h⟩ := h
    refine j_iast o (g := 44) (fun _ _ _ => rfl) hb3 dX8_added_30 ?_
    refine j_nameM (fun M4 hM4 => ?_)
    replace h := h M4 hM4
    refine j_aload_n o dX8_added_31 rfl ?_
    refine j_dup o dX8_added_32 rfl ?_
    refine j_getf o (g := 10) (slot := 0) (ci := 8) (v := .int (M4 10 0)) rfl jin_X8 (by decide) rfl jf_X8_18 (fun _ => rfl) rfl dX8_added_33 ?_
    refine j_iconst o (v := 1) dX8_added_36 rfl ?_
    refine j_iadd o dX8_added_37 ?_
    refine j_putf o (M1 := upM M4 10 0 ((M4 10 0) + 1)) (N1 := N) (g := 10) (slot := 0) (ci := 8) (ty := .int) rfl jin_X8 tyX8_ok nmX8 (by decide) rfl rfl jf_X8_18 (by decide +kernel) rfl rfl (Nat.le_of_ble_eq_true rfl) (fun _ => rfl) (fun _ => rfl) (fun _ hj => upM_ne _ _ _ hj) (fun _ _ => rfl) dX8_added_38 ?_
    refine j_aload_n o dX8_added_41 rfl ?_
    refine j_getf o (g := 10) (slot := 0) (ci := 8) (v := .int ((upM M4 10 0 ((M4 10 0) + 1)) 10 0)) rfl jin_X8 (by decide) rfl jf_X8_18 (fun _ => rfl) rfl dX8_added_42 ?_
    rw [hE]
    exact j_iret o dX8_added_45 ⟨_, rfl, rfl, rfl, h⟩
  · replace h := h.2 c1
    refine j_iconst o (v := (-1)) dX8_added_9 rfl ?_
    rw [hE]
    exact j_iret o dX8_added_10 ⟨_, rfl, rfl, rfl, h⟩

abbrev rm_X8_againstWithout : Room := { frames := 3, cells := 0, slots := 0, locals := 62 }
def w_X8_againstWithout (P : jP) (a1 : Nat) (a2 : Int32) (M : jM) (Q : Int32 → Prop) : Prop :=
  ∀ R5 : Int32 → Int32 → Prop, (∀ (x1 : Int32) (x2 : Int32), (
   ((M 10 0) ≤ x2 → (
    Q x1
   )) ∧ (¬ (M 10 0) ≤ x2 → (
    cLw P a1 = true ∧
    vp_in x2 (20) ∧
    jin P (a1 + 2) (M 43 x2.toNatClampNeg) ∧
    cLw P a1 = true ∧
    w_X4_outcomeOf P a1 ((M (a1 + 2) (M 43 x2.toNatClampNeg).toNatClampNeg) &&& (a2 ^^^ (-1))) M (fun r7 =>
    vp_in x2 (20) ∧
    ∀ R51 : Int32 → Prop, (∀ (x12 : Int32), (
     R5 x12 (x2 + 1)
    ) → R51 x12) →
    (r7 = (M 44 x2.toNatClampNeg) → (
     R51 x1
    )) ∧ (¬ r7 = (M 44 x2.toNatClampNeg) → (
     R51 (x1 ||| ((1 : Int32) <<< (x2 &&& 31)))
    )))
   ))
  ) → R5 x1 x2) →
  R5 0 0
set_option maxRecDepth 20000 in
theorem c_X8_againstWithout (l : Launch) (P : jP) (a1 : Nat) (a2 : Int32) (M : jM) (N : jN) (Q : Int32 → Prop) (h : w_X8_againstWithout P a1 a2 M Q) : jC l yX8_againstWithout cX8_againstWithout 5 (some .int) rm_X8_againstWithout LC [.ref (P.1 10), .ref (P.1 a1), .int a2] P M N (jqi P (fun r M' N' => M = M' ∧ N = N' ∧ Q r )) := by
  refine jC_of (by decide +kernel) [(0, .ref (P.1 10)), (1, .ref (P.1 a1)), (2, .int a2)] (Nat.le_of_ble_eq_true rfl) rfl (fun X o => ?_)
  obtain ⟨E, hE⟩ : ∃ E, E = jE X rm_X8_againstWithout (jqi P (fun r M' N' => M = M' ∧ N = N' ∧ Q r )) := ⟨_, rfl⟩
  rw [← hE]
  unfold w_X8_againstWithout at h
  refine j_iconst o (v := 0) dX8_againstWithout_0 rfl ?_
  refine j_istore_n o [(3, .int 0), (0, .ref (P.1 10)), (1, .ref (P.1 a1)), (2, .int a2)] dX8_againstWithout_1 (by decide) rfl ?_
  refine j_iconst o (v := 0) dX8_againstWithout_2 rfl ?_
  refine j_istore o [(4, .int 0), (3, .int 0), (0, .ref (P.1 10)), (1, .ref (P.1 a1)), (2, .int a2)] dX8_againstWithout_3 (by decide) rfl ?_
  replace h := h (fun (x1 : Int32) (x2 : Int32) => J X P M N 0 0 E 5 5 [(0, .ref (P.1 10)), (1, .ref (P.1 a1)), (2, .int a2), (3, .int x1), (4, .int x2)] []) (by
    intro x1 x2 h
    refine j_iload o dX8_againstWithout_5 rfl ?_
    refine j_aload_n o dX8_againstWithout_7 rfl ?_
    refine j_getf o (g := 10) (slot := 0) (ci := 8) (v := .int (M 10 0)) rfl jin_X8 (by decide) rfl jf_X8_18 (fun _ => rfl) rfl dX8_againstWithout_8 ?_
    refine j_icmp_ge o (tgt := 57) dX8_againstWithout_11 (by decide) (fun c3 => ?_) (fun c3 => ?_)
    · replace h := h.1 c3
      refine j_iload_n o dX8_againstWithout_57 rfl ?_
      rw [hE]
      exact j_iret o dX8_againstWithout_58 ⟨_, rfl, rfl, rfl, rfl, h⟩
    · replace h := h.2 c3
      refine j_aload_n o dX8_againstWithout_14 rfl ?_
      refine j_aload_n o dX8_againstWithout_15 rfl ?_
      obtain ⟨hb4, h⟩ := h
      refine j_getf o (g := a1) (slot := 2) (ci := 4) (v := .ref (P.1 (a1 + 2))) rfl jin_X4 (by decide) rfl jf_X8_22 (fun tA => LC_lw hb4 tA _ _) rfl dX8_againstWithout_16 ?_
      refine j_aload_n o dX8_againstWithout_19 rfl ?_
      refine j_getf o (g := 10) (slot := 1) (ci := 8) (v := .ref (P.1 43)) rfl jin_X8 (by decide) rfl jf_X8_9 (fun _ => rfl) rfl dX8_againstWithout_20 ?_
      refine j_iload o dX8_againstWithout_23 rfl ?_
      obtain ⟨hb5, h⟩ := h
      refine j_iald o (g := 43) (fun _ => rfl) hb5 dX8_againstWithout_25 ?_
      obtain ⟨hb6, h⟩ := h
      obtain ⟨nnhb6, hchb6, hihb6⟩ := hb6
      refine j_iald o (g := a1 + 2) (fun tA => LC_ia hchb6 tA _ _) hihb6 dX8_againstWithout_26 ?_
      refine j_iload_n o dX8_againstWithout_27 rfl ?_
      refine j_iconst o (v := (-1)) dX8_againstWithout_28 rfl ?_
      refine j_ixor o dX8_againstWithout_29 ?_
      refine j_iand o dX8_againstWithout_30 ?_
      obtain ⟨hb10, h⟩ := h
      refine j_callVi (g := a1) (ci := 4) o (c_X4_outcomeOf l P a1 ((M (a1 + 2) (M 43 x2.toNatClampNeg).toNatClampNeg) &&& (a2 ^^^ (-1))) M N _ h) dX8_againstWithout_31 jc_X8_27 jn_X4_outcomeOf rfl rfl rfl (fun tA => LC_lw hb10 tA _ _) rfl rfl (fun r7 Mz8 Nz9 h => ?_)
      obtain ⟨rfl, rfl, h⟩ := h
      refine j_aload_n o dX8_againstWithout_34 rfl ?_
      refine j_getf o (g := 10) (slot := 2) (ci := 8) (v := .ref (P.1 44)) rfl jin_X8 (by decide) rfl jf_X8_15 (fun _ => rfl) rfl dX8_againstWithout_35 ?_
      refine j_iload o dX8_againstWithout_38 rfl ?_
      obtain ⟨hb11, h⟩ := h
      refine j_iald o (g := 44) (fun _ => rfl) hb11 dX8_againstWithout_40 ?_
      replace h := h (fun (x12 : Int32) => J X P M N 0 0 E 5 51 [(0, .ref (P.1 10)), (1, .ref (P.1 a1)), (2, .int a2), (3, .int x12), (4, .int x2)] []) (by
        intro x12 h
        refine j_iinc o (v := x2 + 1) [(4, .int (x2 + 1)), (0, .ref (P.1 10)), (1, .ref (P.1 a1)), (2, .int a2), (3, .int x12)] dX8_againstWithout_51 rfl rfl (by decide) rfl ?_
        refine j_goto o (tgt := 5) dX8_againstWithout_54 (by decide) ?_
        exact j_pick [1, 2, 3, 4, 0] rfl h)
      refine j_icmp_eq o (tgt := 51) dX8_againstWithout_41 (by decide) (fun c13 => ?_) (fun c13 => ?_)
      · replace h := h.1 c13
        exact j_pick [0, 1, 2, 3, 4] rfl h
      · replace h := h.2 c13
        refine j_iload_n o dX8_againstWithout_44 rfl ?_
        refine j_iconst o (v := 1) dX8_againstWithout_45 rfl ?_
        refine j_iload o dX8_againstWithout_46 rfl ?_
        refine j_ishl o dX8_againstWithout_48 ?_
        refine j_ior o dX8_againstWithout_49 ?_
        refine j_istore_n o [(3, .int (x1 ||| ((1 : Int32) <<< (x2 &&& 31)))), (0, .ref (P.1 10)), (1, .ref (P.1 a1)), (2, .int a2), (4, .int x2)] dX8_againstWithout_50 (by decide) rfl ?_
        exact j_pick [1, 2, 3, 0, 4] rfl h)
  exact j_pick [2, 3, 4, 1, 0] rfl h

abbrev rm_X9_change : Room := { frames := 0, cells := 0, slots := 0, locals := 0 }
def w_X9_change (P : jP) (a1 : Int32) (a2 : Int32) (a3 : Int32) (M : jM) (Q : Int32 → jM → Prop) : Prop :=
  (a2 < 0 → (
   Q 0 M
  )) ∧ (¬ a2 < 0 → (
   ((M 6 0) ≤ a2 → (
    Q 0 M
   )) ∧ (¬ (M 6 0) ≤ a2 → (
    (0 ≤ a3 → (
     ∀ R42 : Prop, ((
      ∀ R72 : Prop, ((
       (¬ a1 = 3 → (
        Q 0 M
       )) ∧ (a1 = 3 → (
        (10 < a3 → (
         Q 0 M
        )) ∧ (¬ 10 < a3 → (
         vp_in a2 (P.2.2 0) ∧
         Q 1 (upM M 28 a2.toNatClampNeg a3)
        ))
       ))
      ) → R72) →
      (¬ a1 = 2 → (
       R72
      )) ∧ (a1 = 2 → (
       (1 < a3 → (
        R72
       )) ∧ (¬ 1 < a3 → (
        ∀ M9 : jM, M9 = upM M 6 3 (((M 6 3) &&& (((1 : Int32) <<< (a2 &&& 31)) ^^^ (-1))) ||| (a3 <<< (a2 &&& 31))) →
        Q 1 M9
       ))
      ))
     ) → R42) →
     (¬ a1 = 0 → (
      R42
     )) ∧ (a1 = 0 → (
      (a3 < 1 → (
       R42
      )) ∧ (¬ a3 < 1 → (
       (99 < a3 → (
        R42
       )) ∧ (¬ 99 < a3 → (
        vp_in a2 (P.2.2 0) ∧
        Q 1 (upM M 27 a2.toNatClampNeg a3)
       ))
      ))
     ))
    )) ∧ (¬ 0 ≤ a3 → (
     Q 0 M
    ))
   ))
  ))
set_option maxRecDepth 20000 in
theorem c_X9_change (l : Launch) (P : jP) (a1 : Int32) (a2 : Int32) (a3 : Int32) (M : jM) (N : jN) (Q : Int32 → jM → Prop) (h : w_X9_change P a1 a2 a3 M Q) : jC l yX9_change cX9_change 4 (some .boolean) rm_X9_change LC [.ref (P.1 6), .int a1, .int a2, .int a3] P M N (jqi P (fun r M' N' => N = N' ∧ Q r M' )) := by
  refine jC_of (by decide +kernel) [(0, .ref (P.1 6)), (1, .int a1), (2, .int a2), (3, .int a3)] (Nat.le_of_ble_eq_true rfl) rfl (fun X o => ?_)
  obtain ⟨E, hE⟩ : ∃ E, E = jE X rm_X9_change (jqi P (fun r M' N' => N = N' ∧ Q r M' )) := ⟨_, rfl⟩
  rw [← hE]
  unfold w_X9_change at h
  refine j_iload_n o dX9_change_0 rfl ?_
  refine j_if_lt o (tgt := 16) dX9_change_1 (by decide) (fun c1 => ?_) (fun c1 => ?_)
  · replace h := h.1 c1
    refine j_iconst o (v := 0) dX9_change_16 rfl ?_
    rw [hE]
    exact j_zret o rfl dX9_change_17 ⟨_, rfl, rfl, rfl, h⟩
  · replace h := h.2 c1
    refine j_iload_n o dX9_change_4 rfl ?_
    refine j_aload_n o dX9_change_5 rfl ?_
    refine j_getf o (g := 6) (slot := 0) (ci := 9) (v := .int (M 6 0)) rfl jin_X9 (by decide) rfl jf_X9_9 (fun _ => rfl) rfl dX9_change_6 ?_
    refine j_icmp_ge o (tgt := 16) dX9_change_9 (by decide) (fun c2 => ?_) (fun c2 => ?_)
    · replace h := h.1 c2
      refine j_iconst o (v := 0) dX9_change_16 rfl ?_
      rw [hE]
      exact j_zret o rfl dX9_change_17 ⟨_, rfl, rfl, rfl, h⟩
    · replace h := h.2 c2
      refine j_iload_n o dX9_change_12 rfl ?_
      refine j_if_ge o (tgt := 18) dX9_change_13 (by decide) (fun c3 => ?_) (fun c3 => ?_)
      · replace h := h.1 c3
        refine j_iload_n o dX9_change_18 rfl ?_
        replace h := h (J X P M N 0 0 E 4 42 [(0, .ref (P.1 6)), (1, .int a1), (2, .int a2), (3, .int a3)] []) (by
          intro h
          refine j_iload_n o dX9_change_42 rfl ?_
          refine j_iconst o (v := 2) dX9_change_43 rfl ?_
          replace h := h (J X P M N 0 0 E 4 72 [(0, .ref (P.1 6)), (1, .int a1), (2, .int a2), (3, .int a3)] []) (by
            intro h
            refine j_iload_n o dX9_change_72 rfl ?_
            refine j_iconst o (v := 3) dX9_change_73 rfl ?_
            refine j_icmp_ne o (tgt := 92) dX9_change_74 (by decide) (fun c4 => ?_) (fun c4 => ?_)
            · replace h := h.1 c4
              refine j_iconst o (v := 0) dX9_change_92 rfl ?_
              rw [hE]
              exact j_zret o rfl dX9_change_93 ⟨_, rfl, rfl, rfl, h⟩
            · replace h := h.2 c4
              refine j_iload_n o dX9_change_77 rfl ?_
              refine j_bipush o (v := 10) dX9_change_78 rfl ?_
              refine j_icmp_gt o (tgt := 92) dX9_change_80 (by decide) (fun c5 => ?_) (fun c5 => ?_)
              · replace h := h.1 c5
                refine j_iconst o (v := 0) dX9_change_92 rfl ?_
                rw [hE]
                exact j_zret o rfl dX9_change_93 ⟨_, rfl, rfl, rfl, h⟩
              · replace h := h.2 c5
                refine j_aload_n o dX9_change_83 rfl ?_
                refine j_getf o (g := 6) (slot := 2) (ci := 9) (v := .ref (P.1 28)) rfl jin_X9 (by decide) rfl jf_X9_19 (fun _ => rfl) rfl dX9_change_84 ?_
                refine j_iload_n o dX9_change_87 rfl ?_
                refine j_iload_n o dX9_change_88 rfl ?_
                obtain ⟨hb6, h⟩ := h
                refine j_iast o (g := 28) (fun _ _ _ => rfl) hb6 dX9_change_89 ?_
                refine j_iconst o (v := 1) dX9_change_90 rfl ?_
                rw [hE]
                exact j_zret o rfl dX9_change_91 ⟨_, rfl, rfl, rfl, h⟩)
          refine j_icmp_ne o (tgt := 72) dX9_change_44 (by decide) (fun c7 => ?_) (fun c7 => ?_)
          · replace h := h.1 c7
            exact j_pick [0, 1, 2, 3] rfl h
          · replace h := h.2 c7
            refine j_iload_n o dX9_change_47 rfl ?_
            refine j_iconst o (v := 1) dX9_change_48 rfl ?_
            refine j_icmp_gt o (tgt := 72) dX9_change_49 (by decide) (fun c8 => ?_) (fun c8 => ?_)
            · replace h := h.1 c8
              exact j_pick [0, 1, 2, 3] rfl h
            · replace h := h.2 c8
              refine j_aload_n o dX9_change_52 rfl ?_
              refine j_aload_n o dX9_change_53 rfl ?_
              refine j_getf o (g := 6) (slot := 3) (ci := 9) (v := .int (M 6 3)) rfl jin_X9 (by decide) rfl jf_X9_22 (fun _ => rfl) rfl dX9_change_54 ?_
              refine j_iconst o (v := 1) dX9_change_57 rfl ?_
              refine j_iload_n o dX9_change_58 rfl ?_
              refine j_ishl o dX9_change_59 ?_
              refine j_iconst o (v := (-1)) dX9_change_60 rfl ?_
              refine j_ixor o dX9_change_61 ?_
              refine j_iand o dX9_change_62 ?_
              refine j_iload_n o dX9_change_63 rfl ?_
              refine j_iload_n o dX9_change_64 rfl ?_
              refine j_ishl o dX9_change_65 ?_
              refine j_ior o dX9_change_66 ?_
              refine j_putf o (M1 := upM M 6 3 (((M 6 3) &&& (((1 : Int32) <<< (a2 &&& 31)) ^^^ (-1))) ||| (a3 <<< (a2 &&& 31)))) (N1 := N) (g := 6) (slot := 3) (ci := 9) (ty := .int) rfl jin_X9 tyX9_ok nmX9 (by decide) rfl rfl jf_X9_22 (by decide +kernel) rfl rfl (Nat.le_of_ble_eq_true rfl) (fun _ => rfl) (fun _ => rfl) (fun _ hj => upM_ne _ _ _ hj) (fun _ _ => rfl) dX9_change_67 ?_
              refine j_nameM (fun M9 hM9 => ?_)
              replace h := h M9 hM9
              refine j_iconst o (v := 1) dX9_change_70 rfl ?_
              rw [hE]
              exact j_zret o rfl dX9_change_71 ⟨_, rfl, rfl, rfl, h⟩)
        refine j_if_ne o (tgt := 42) dX9_change_19 (by decide) (fun c10 => ?_) (fun c10 => ?_)
        · replace h := h.1 c10
          exact j_pick [0, 1, 2, 3] rfl h
        · replace h := h.2 c10
          refine j_iload_n o dX9_change_22 rfl ?_
          refine j_iconst o (v := 1) dX9_change_23 rfl ?_
          refine j_icmp_lt o (tgt := 42) dX9_change_24 (by decide) (fun c11 => ?_) (fun c11 => ?_)
          · replace h := h.1 c11
            exact j_pick [0, 1, 2, 3] rfl h
          · replace h := h.2 c11
            refine j_iload_n o dX9_change_27 rfl ?_
            refine j_bipush o (v := 99) dX9_change_28 rfl ?_
            refine j_icmp_gt o (tgt := 42) dX9_change_30 (by decide) (fun c12 => ?_) (fun c12 => ?_)
            · replace h := h.1 c12
              exact j_pick [0, 1, 2, 3] rfl h
            · replace h := h.2 c12
              refine j_aload_n o dX9_change_33 rfl ?_
              refine j_getf o (g := 6) (slot := 1) (ci := 9) (v := .ref (P.1 27)) rfl jin_X9 (by decide) rfl jf_X9_15 (fun _ => rfl) rfl dX9_change_34 ?_
              refine j_iload_n o dX9_change_37 rfl ?_
              refine j_iload_n o dX9_change_38 rfl ?_
              obtain ⟨hb13, h⟩ := h
              refine j_iast o (g := 27) (fun _ _ _ => rfl) hb13 dX9_change_39 ?_
              refine j_iconst o (v := 1) dX9_change_40 rfl ?_
              rw [hE]
              exact j_zret o rfl dX9_change_41 ⟨_, rfl, rfl, rfl, h⟩
      · replace h := h.2 c3
        refine j_iconst o (v := 0) dX9_change_16 rfl ?_
        rw [hE]
        exact j_zret o rfl dX9_change_17 ⟨_, rfl, rfl, rfl, h⟩

abbrev rm_X9_minutesOf : Room := { frames := 0, cells := 0, slots := 0, locals := 0 }
def w_X9_minutesOf (P : jP) (a1 : Int32) (M : jM) (Q : Int32 → Prop) : Prop :=
  ∀ R4 : Int32 → Int32 → Prop, (∀ (x1 : Int32) (x2 : Int32), (
   ((M 6 0) ≤ x2 → (
    Q x1
   )) ∧ (¬ (M 6 0) ≤ x2 → (
    ∀ R29 : Int32 → Prop, (∀ (x4 : Int32), (
     R4 x4 (x2 + 1)
    ) → R29 x4) →
    (((a1 >>> (x2 &&& 31)) &&& 1) = 0 → (
     R29 x1
    )) ∧ (¬ ((a1 >>> (x2 &&& 31)) &&& 1) = 0 → (
     vp_in x2 (P.2.2 0) ∧
     R29 (x1 + (M 27 x2.toNatClampNeg))
    ))
   ))
  ) → R4 x1 x2) →
  R4 0 0
set_option maxRecDepth 20000 in
theorem c_X9_minutesOf (l : Launch) (P : jP) (a1 : Int32) (M : jM) (N : jN) (Q : Int32 → Prop) (h : w_X9_minutesOf P a1 M Q) : jC l yX9_minutesOf cX9_minutesOf 4 (some .int) rm_X9_minutesOf LC [.ref (P.1 6), .int a1] P M N (jqi P (fun r M' N' => M = M' ∧ N = N' ∧ Q r )) := by
  refine jC_of (by decide +kernel) [(0, .ref (P.1 6)), (1, .int a1)] (Nat.le_of_ble_eq_true rfl) rfl (fun X o => ?_)
  obtain ⟨E, hE⟩ : ∃ E, E = jE X rm_X9_minutesOf (jqi P (fun r M' N' => M = M' ∧ N = N' ∧ Q r )) := ⟨_, rfl⟩
  rw [← hE]
  unfold w_X9_minutesOf at h
  refine j_iconst o (v := 0) dX9_minutesOf_0 rfl ?_
  refine j_istore_n o [(2, .int 0), (0, .ref (P.1 6)), (1, .int a1)] dX9_minutesOf_1 (by decide) rfl ?_
  refine j_iconst o (v := 0) dX9_minutesOf_2 rfl ?_
  refine j_istore_n o [(3, .int 0), (2, .int 0), (0, .ref (P.1 6)), (1, .int a1)] dX9_minutesOf_3 (by decide) rfl ?_
  replace h := h (fun (x1 : Int32) (x2 : Int32) => J X P M N 0 0 E 4 4 [(0, .ref (P.1 6)), (1, .int a1), (2, .int x1), (3, .int x2)] []) (by
    intro x1 x2 h
    refine j_iload_n o dX9_minutesOf_4 rfl ?_
    refine j_aload_n o dX9_minutesOf_5 rfl ?_
    refine j_getf o (g := 6) (slot := 0) (ci := 9) (v := .int (M 6 0)) rfl jin_X9 (by decide) rfl jf_X9_9 (fun _ => rfl) rfl dX9_minutesOf_6 ?_
    refine j_icmp_ge o (tgt := 35) dX9_minutesOf_9 (by decide) (fun c3 => ?_) (fun c3 => ?_)
    · replace h := h.1 c3
      refine j_iload_n o dX9_minutesOf_35 rfl ?_
      rw [hE]
      exact j_iret o dX9_minutesOf_36 ⟨_, rfl, rfl, rfl, rfl, h⟩
    · replace h := h.2 c3
      refine j_iload_n o dX9_minutesOf_12 rfl ?_
      refine j_iload_n o dX9_minutesOf_13 rfl ?_
      refine j_ishr o dX9_minutesOf_14 ?_
      refine j_iconst o (v := 1) dX9_minutesOf_15 rfl ?_
      refine j_iand o dX9_minutesOf_16 ?_
      replace h := h (fun (x4 : Int32) => J X P M N 0 0 E 4 29 [(0, .ref (P.1 6)), (1, .int a1), (2, .int x4), (3, .int x2)] []) (by
        intro x4 h
        refine j_iinc o (v := x2 + 1) [(3, .int (x2 + 1)), (0, .ref (P.1 6)), (1, .int a1), (2, .int x4)] dX9_minutesOf_29 rfl rfl (by decide) rfl ?_
        refine j_goto o (tgt := 4) dX9_minutesOf_32 (by decide) ?_
        exact j_pick [1, 2, 3, 0] rfl h)
      refine j_if_eq o (tgt := 29) dX9_minutesOf_17 (by decide) (fun c5 => ?_) (fun c5 => ?_)
      · replace h := h.1 c5
        exact j_pick [0, 1, 2, 3] rfl h
      · replace h := h.2 c5
        refine j_iload_n o dX9_minutesOf_20 rfl ?_
        refine j_aload_n o dX9_minutesOf_21 rfl ?_
        refine j_getf o (g := 6) (slot := 1) (ci := 9) (v := .ref (P.1 27)) rfl jin_X9 (by decide) rfl jf_X9_15 (fun _ => rfl) rfl dX9_minutesOf_22 ?_
        refine j_iload_n o dX9_minutesOf_25 rfl ?_
        obtain ⟨hb6, h⟩ := h
        refine j_iald o (g := 27) (fun _ => rfl) hb6 dX9_minutesOf_26 ?_
        refine j_iadd o dX9_minutesOf_27 ?_
        refine j_istore_n o [(2, .int (x1 + (M 27 x2.toNatClampNeg))), (0, .ref (P.1 6)), (1, .int a1), (3, .int x2)] dX9_minutesOf_28 (by decide) rfl ?_
        exact j_pick [1, 2, 0, 3] rfl h)
  exact j_pick [2, 3, 1, 0] rfl h

abbrev rm_X10_signs : Room := { frames := 0, cells := 0, slots := 0, locals := 0 }
def w_X10_signs (P : jP) (a1 : Int32) (Q : Int32 → Prop) : Prop :=
  ∀ R5 : Int32 → Int32 → Prop, (∀ (x1 : Int32) (x2 : Int32), (
   (x2 < 0 → (
    Q x1
   )) ∧ (¬ x2 < 0 → (
    ∀ R25 : Int32 → Prop, (∀ (x4 : Int32), (
     R5 (x1 + x4) (x2 + (-8))
    ) → R25 x4) →
    (¬ ((a1 >>> (x2 &&& 31)) &&& 255) = 0 → (
     R25 1
    )) ∧ (((a1 >>> (x2 &&& 31)) &&& 255) = 0 → (
     R25 0
    ))
   ))
  ) → R5 x1 x2) →
  R5 0 24
set_option maxRecDepth 20000 in
theorem c_X10_signs (l : Launch) (P : jP) (a1 : Int32) (M : jM) (N : jN) (Q : Int32 → Prop) (h : w_X10_signs P a1 Q) : jC l yX10_signs cX10_signs 3 (some .int) rm_X10_signs LC [.int a1] P M N (jqi P (fun r M' N' => M = M' ∧ N = N' ∧ Q r )) := by
  refine jC_of (by decide +kernel) [(0, .int a1)] (Nat.le_of_ble_eq_true rfl) rfl (fun X o => ?_)
  obtain ⟨E, hE⟩ : ∃ E, E = jE X rm_X10_signs (jqi P (fun r M' N' => M = M' ∧ N = N' ∧ Q r )) := ⟨_, rfl⟩
  rw [← hE]
  unfold w_X10_signs at h
  refine j_iconst o (v := 0) dX10_signs_0 rfl ?_
  refine j_istore_n o [(1, .int 0), (0, .int a1)] dX10_signs_1 (by decide) rfl ?_
  refine j_bipush o (v := 24) dX10_signs_2 rfl ?_
  refine j_istore_n o [(2, .int 24), (1, .int 0), (0, .int a1)] dX10_signs_4 (by decide) rfl ?_
  replace h := h (fun (x1 : Int32) (x2 : Int32) => J X P M N 0 0 E 3 5 [(0, .int a1), (1, .int x1), (2, .int x2)] []) (by
    intro x1 x2 h
    refine j_iload_n o dX10_signs_5 rfl ?_
    refine j_if_lt o (tgt := 33) dX10_signs_6 (by decide) (fun c3 => ?_) (fun c3 => ?_)
    · replace h := h.1 c3
      refine j_iload_n o dX10_signs_33 rfl ?_
      rw [hE]
      exact j_iret o dX10_signs_34 ⟨_, rfl, rfl, rfl, rfl, h⟩
    · replace h := h.2 c3
      refine j_iload_n o dX10_signs_9 rfl ?_
      refine j_iload_n o dX10_signs_10 rfl ?_
      refine j_iload_n o dX10_signs_11 rfl ?_
      refine j_ishr o dX10_signs_12 ?_
      refine j_sipush o (v := 255) dX10_signs_13 rfl ?_
      refine j_iand o dX10_signs_16 ?_
      replace h := h (fun (x4 : Int32) => J X P M N 0 0 E 3 25 [(0, .int a1), (2, .int x2)] [.int x4, .int x1]) (by
        intro x4 h
        refine j_iadd o dX10_signs_25 ?_
        refine j_istore_n o [(1, .int (x1 + x4)), (0, .int a1), (2, .int x2)] dX10_signs_26 (by decide) rfl ?_
        refine j_iinc o (v := x2 + (-8)) [(2, .int (x2 + (-8))), (1, .int (x1 + x4)), (0, .int a1)] dX10_signs_27 rfl rfl (by decide) rfl ?_
        refine j_goto o (tgt := 5) dX10_signs_30 (by decide) ?_
        exact j_pick [2, 1, 0] rfl h)
      refine j_if_ne o (tgt := 24) dX10_signs_17 (by decide) (fun c5 => ?_) (fun c5 => ?_)
      · replace h := h.1 c5
        refine j_iconst o (v := 1) dX10_signs_24 rfl ?_
        exact j_pick [0, 2] rfl h
      · replace h := h.2 c5
        refine j_iconst o (v := 0) dX10_signs_20 rfl ?_
        refine j_goto o (tgt := 25) dX10_signs_21 (by decide) ?_
        exact j_pick [0, 2] rfl h)
  exact j_pick [2, 1, 0] rfl h

abbrev rm_X10_append : Room := { frames := 0, cells := 0, slots := 0, locals := 0 }
def w_X10_append (P : jP) (a1 : Int32) (M : jM) (Q : jM → Prop) : Prop :=
  ∀ R3 : Int32 → jM → Prop, (∀ (x1 : Int32) (M2 : jM), (
   (x1 < 0 → (
    Q M2
   )) ∧ (¬ x1 < 0 → (
    ∀ R46 : jM → Prop, (∀ (M4 : jM), (
     R3 (x1 + (-8)) M4
    ) → R46 M4) →
    (((a1 >>> (x1 &&& 31)) &&& 255) = 0 → (
     R46 M2
    )) ∧ (¬ ((a1 >>> (x1 &&& 31)) &&& 255) = 0 → (
     (160 ≤ (M2 3 1) → (
      R46 M2
     )) ∧ (¬ 160 ≤ (M2 3 1) → (
      vp_in (M2 3 1) (160) ∧
      ∀ M8 : jM, M8 = upM (upM M2 3 1 ((M2 3 1) + 1)) 17 (M2 3 1).toNatClampNeg ((a1 >>> (x1 &&& 31)) &&& 255) →
      R46 M8
     ))
    ))
   ))
  ) → R3 x1 M2) →
  R3 24 M
set_option maxRecDepth 20000 in
theorem c_X10_append (l : Launch) (P : jP) (a1 : Int32) (M : jM) (N : jN) (Q : jM → Prop) (h : w_X10_append P a1 M Q) : jC l yX10_append cX10_append 4 none rm_X10_append LC [.ref (P.1 3), .int a1] P M N (jqv P (fun M' N' => N = N' ∧ Q M' )) := by
  refine jC_of (by decide +kernel) [(0, .ref (P.1 3)), (1, .int a1)] (Nat.le_of_ble_eq_true rfl) rfl (fun X o => ?_)
  obtain ⟨E, hE⟩ : ∃ E, E = jE X rm_X10_append (jqv P (fun M' N' => N = N' ∧ Q M' )) := ⟨_, rfl⟩
  rw [← hE]
  unfold w_X10_append at h
  refine j_bipush o (v := 24) dX10_append_0 rfl ?_
  refine j_istore_n o [(2, .int 24), (0, .ref (P.1 3)), (1, .int a1)] dX10_append_2 (by decide) rfl ?_
  replace h := h (fun (x1 : Int32) (M2 : jM) => J X P M2 N 0 0 E 4 3 [(0, .ref (P.1 3)), (1, .int a1), (2, .int x1)] []) (by
    intro x1 M2 h
    refine j_iload_n o dX10_append_3 rfl ?_
    refine j_if_lt o (tgt := 52) dX10_append_4 (by decide) (fun c3 => ?_) (fun c3 => ?_)
    · replace h := h.1 c3
      rw [hE]
      exact j_vret o dX10_append_52 ⟨rfl, rfl, rfl, h⟩
    · replace h := h.2 c3
      refine j_iload_n o dX10_append_7 rfl ?_
      refine j_iload_n o dX10_append_8 rfl ?_
      refine j_ishr o dX10_append_9 ?_
      refine j_sipush o (v := 255) dX10_append_10 rfl ?_
      refine j_iand o dX10_append_13 ?_
      refine j_istore_n o [(3, .int ((a1 >>> (x1 &&& 31)) &&& 255)), (0, .ref (P.1 3)), (1, .int a1), (2, .int x1)] dX10_append_14 (by decide) rfl ?_
      refine j_iload_n o dX10_append_15 rfl ?_
      replace h := h (fun (M4 : jM) => J X P M4 N 0 0 E 4 46 [(0, .ref (P.1 3)), (1, .int a1), (2, .int x1)] []) (by
        intro M4 h
        refine j_iinc o (v := x1 + (-8)) [(2, .int (x1 + (-8))), (0, .ref (P.1 3)), (1, .int a1)] dX10_append_46 rfl rfl (by decide) rfl ?_
        refine j_goto o (tgt := 3) dX10_append_49 (by decide) ?_
        exact j_pick [1, 2, 0] rfl h)
      refine j_if_eq o (tgt := 46) dX10_append_16 (by decide) (fun c5 => ?_) (fun c5 => ?_)
      · replace h := h.1 c5
        exact j_pick [1, 2, 3] rfl h
      · replace h := h.2 c5
        refine j_aload_n o dX10_append_19 rfl ?_
        refine j_getf o (g := 3) (slot := 1) (ci := 10) (v := .int (M2 3 1)) rfl jin_X10 (by decide) rfl jf_X10_19 (fun _ => rfl) rfl dX10_append_20 ?_
        refine j_sipush o (v := 160) dX10_append_23 rfl ?_
        refine j_icmp_ge o (tgt := 46) dX10_append_26 (by decide) (fun c6 => ?_) (fun c6 => ?_)
        · replace h := h.1 c6
          exact j_pick [1, 2, 3] rfl h
        · replace h := h.2 c6
          refine j_aload_n o dX10_append_29 rfl ?_
          refine j_getf o (g := 3) (slot := 0) (ci := 10) (v := .ref (P.1 17)) rfl jin_X10 (by decide) rfl jf_X10_9 (fun _ => rfl) rfl dX10_append_30 ?_
          refine j_aload_n o dX10_append_33 rfl ?_
          refine j_dup o dX10_append_34 rfl ?_
          refine j_getf o (g := 3) (slot := 1) (ci := 10) (v := .int (M2 3 1)) rfl jin_X10 (by decide) rfl jf_X10_19 (fun _ => rfl) rfl dX10_append_35 ?_
          refine j_dup_x1 o dX10_append_38 rfl rfl ?_
          refine j_iconst o (v := 1) dX10_append_39 rfl ?_
          refine j_iadd o dX10_append_40 ?_
          refine j_putf o (M1 := upM M2 3 1 ((M2 3 1) + 1)) (N1 := N) (g := 3) (slot := 1) (ci := 10) (ty := .int) rfl jin_X10 tyX10_ok nmX10 (by decide) rfl rfl jf_X10_19 (by decide +kernel) rfl rfl (Nat.le_of_ble_eq_true rfl) (fun _ => rfl) (fun _ => rfl) (fun _ hj => upM_ne _ _ _ hj) (fun _ _ => rfl) dX10_append_41 ?_
          refine j_iload_n o dX10_append_44 rfl ?_
          obtain ⟨hb7, h⟩ := h
          refine j_iast o (g := 17) (fun _ _ _ => rfl) hb7 dX10_append_45 ?_
          refine j_nameM (fun M8 hM8 => ?_)
          replace h := h M8 hM8
          exact j_pick [1, 2, 3] rfl h)
  exact j_pick [1, 2, 0] rfl h

abbrev rm_X11_feed : Room := { frames := 1, cells := 0, slots := 0, locals := 23 }
def w_X11_feed (P : jP) (a1 : Int32) (a2 : Int32) (a3 : Int32) (a4 : Int32) (a5 : Int32) (M : jM) (Q : Int32 → jM → Prop) : Prop :=
  w_X10_signs P a1 (fun r1 =>
  w_X10_signs P a2 (fun r4 =>
  w_X10_signs P a3 (fun r7 =>
  w_X10_signs P a4 (fun r10 =>
  w_X10_signs P a5 (fun r13 =>
  (((M 3 1) + ((((r1 + r4) + r7) + r10) + r13)) ≤ 160 → (
   w_X10_append P a1 M (fun M17 =>
   w_X10_append P a2 M17 (fun M19 =>
   w_X10_append P a3 M19 (fun M21 =>
   w_X10_append P a4 M21 (fun M23 =>
   w_X10_append P a5 M23 (fun M25 =>
   Q (M25 3 1) M25)))))
  )) ∧ (¬ ((M 3 1) + ((((r1 + r4) + r7) + r10) + r13)) ≤ 160 → (
   Q (-1) M
  )))))))
set_option maxRecDepth 20000 in
theorem c_X11_feed (l : Launch) (P : jP) (a1 : Int32) (a2 : Int32) (a3 : Int32) (a4 : Int32) (a5 : Int32) (M : jM) (N : jN) (Q : Int32 → jM → Prop) (h : w_X11_feed P a1 a2 a3 a4 a5 M Q) : jC l yX11_feed cX11_feed 7 (some .int) rm_X11_feed LC [.ref (P.1 1), .int a1, .int a2, .int a3, .int a4, .int a5] P M N (jqi P (fun r M' N' => N = N' ∧ Q r M' )) := by
  refine jC_of (by decide +kernel) [(0, .ref (P.1 1)), (1, .int a1), (2, .int a2), (3, .int a3), (4, .int a4), (5, .int a5)] (Nat.le_of_ble_eq_true rfl) rfl (fun X o => ?_)
  obtain ⟨E, hE⟩ : ∃ E, E = jE X rm_X11_feed (jqi P (fun r M' N' => N = N' ∧ Q r M' )) := ⟨_, rfl⟩
  rw [← hE]
  unfold w_X11_feed at h
  refine j_iload_n o dX11_feed_0 rfl ?_
  refine j_callSi o (c_X10_signs l P a1 M N _ h) dX11_feed_1 jc_X11_113 jn_X10_signs rfl rfl rfl rfl (fun r1 Mz2 Nz3 h => ?_)
  obtain ⟨rfl, rfl, h⟩ := h
  refine j_iload_n o dX11_feed_4 rfl ?_
  refine j_callSi o (c_X10_signs l P a2 M N _ h) dX11_feed_5 jc_X11_113 jn_X10_signs rfl rfl rfl rfl (fun r4 Mz5 Nz6 h => ?_)
  obtain ⟨rfl, rfl, h⟩ := h
  refine j_iadd o dX11_feed_8 ?_
  refine j_iload_n o dX11_feed_9 rfl ?_
  refine j_callSi o (c_X10_signs l P a3 M N _ h) dX11_feed_10 jc_X11_113 jn_X10_signs rfl rfl rfl rfl (fun r7 Mz8 Nz9 h => ?_)
  obtain ⟨rfl, rfl, h⟩ := h
  refine j_iadd o dX11_feed_13 ?_
  refine j_iload o dX11_feed_14 rfl ?_
  refine j_callSi o (c_X10_signs l P a4 M N _ h) dX11_feed_16 jc_X11_113 jn_X10_signs rfl rfl rfl rfl (fun r10 Mz11 Nz12 h => ?_)
  obtain ⟨rfl, rfl, h⟩ := h
  refine j_iadd o dX11_feed_19 ?_
  refine j_iload o dX11_feed_20 rfl ?_
  refine j_callSi o (c_X10_signs l P a5 M N _ h) dX11_feed_22 jc_X11_113 jn_X10_signs rfl rfl rfl rfl (fun r13 Mz14 Nz15 h => ?_)
  obtain ⟨rfl, rfl, h⟩ := h
  refine j_iadd o dX11_feed_25 ?_
  refine j_istore o [(6, .int ((((r1 + r4) + r7) + r10) + r13)), (0, .ref (P.1 1)), (1, .int a1), (2, .int a2), (3, .int a3), (4, .int a4), (5, .int a5)] dX11_feed_26 (by decide) rfl ?_
  refine j_aload_n o dX11_feed_28 rfl ?_
  refine j_getf o (g := 1) (slot := 1) (ci := 11) (v := .ref (P.1 3)) rfl jin_X11 (by decide) rfl jf_X11_30 (fun _ => rfl) rfl dX11_feed_29 ?_
  refine j_getf o (g := 3) (slot := 1) (ci := 10) (v := .int (M 3 1)) rfl jin_X10 (by decide) rfl jf_X11_117 (fun _ => rfl) rfl dX11_feed_32 ?_
  refine j_iload o dX11_feed_35 rfl ?_
  refine j_iadd o dX11_feed_37 ?_
  refine j_sipush o (v := 160) dX11_feed_38 rfl ?_
  refine j_icmp_le o (tgt := 46) dX11_feed_41 (by decide) (fun c16 => ?_) (fun c16 => ?_)
  · replace h := h.1 c16
    refine j_aload_n o dX11_feed_46 rfl ?_
    refine j_getf o (g := 1) (slot := 1) (ci := 11) (v := .ref (P.1 3)) rfl jin_X11 (by decide) rfl jf_X11_30 (fun _ => rfl) rfl dX11_feed_47 ?_
    refine j_iload_n o dX11_feed_50 rfl ?_
    refine j_callVv (g := 3) (ci := 10) o (c_X10_append l P a1 M N _ h) dX11_feed_51 jc_X11_120 jn_X10_append rfl rfl rfl (fun _ => rfl) rfl rfl (fun M17 Nz18 h => ?_)
    obtain ⟨rfl, h⟩ := h
    refine j_aload_n o dX11_feed_54 rfl ?_
    refine j_getf o (g := 1) (slot := 1) (ci := 11) (v := .ref (P.1 3)) rfl jin_X11 (by decide) rfl jf_X11_30 (fun _ => rfl) rfl dX11_feed_55 ?_
    refine j_iload_n o dX11_feed_58 rfl ?_
    refine j_callVv (g := 3) (ci := 10) o (c_X10_append l P a2 M17 N _ h) dX11_feed_59 jc_X11_120 jn_X10_append rfl rfl rfl (fun _ => rfl) rfl rfl (fun M19 Nz20 h => ?_)
    obtain ⟨rfl, h⟩ := h
    refine j_aload_n o dX11_feed_62 rfl ?_
    refine j_getf o (g := 1) (slot := 1) (ci := 11) (v := .ref (P.1 3)) rfl jin_X11 (by decide) rfl jf_X11_30 (fun _ => rfl) rfl dX11_feed_63 ?_
    refine j_iload_n o dX11_feed_66 rfl ?_
    refine j_callVv (g := 3) (ci := 10) o (c_X10_append l P a3 M19 N _ h) dX11_feed_67 jc_X11_120 jn_X10_append rfl rfl rfl (fun _ => rfl) rfl rfl (fun M21 Nz22 h => ?_)
    obtain ⟨rfl, h⟩ := h
    refine j_aload_n o dX11_feed_70 rfl ?_
    refine j_getf o (g := 1) (slot := 1) (ci := 11) (v := .ref (P.1 3)) rfl jin_X11 (by decide) rfl jf_X11_30 (fun _ => rfl) rfl dX11_feed_71 ?_
    refine j_iload o dX11_feed_74 rfl ?_
    refine j_callVv (g := 3) (ci := 10) o (c_X10_append l P a4 M21 N _ h) dX11_feed_76 jc_X11_120 jn_X10_append rfl rfl rfl (fun _ => rfl) rfl rfl (fun M23 Nz24 h => ?_)
    obtain ⟨rfl, h⟩ := h
    refine j_aload_n o dX11_feed_79 rfl ?_
    refine j_getf o (g := 1) (slot := 1) (ci := 11) (v := .ref (P.1 3)) rfl jin_X11 (by decide) rfl jf_X11_30 (fun _ => rfl) rfl dX11_feed_80 ?_
    refine j_iload o dX11_feed_83 rfl ?_
    refine j_callVv (g := 3) (ci := 10) o (c_X10_append l P a5 M23 N _ h) dX11_feed_85 jc_X11_120 jn_X10_append rfl rfl rfl (fun _ => rfl) rfl rfl (fun M25 Nz26 h => ?_)
    obtain ⟨rfl, h⟩ := h
    refine j_aload_n o dX11_feed_88 rfl ?_
    refine j_getf o (g := 1) (slot := 1) (ci := 11) (v := .ref (P.1 3)) rfl jin_X11 (by decide) rfl jf_X11_30 (fun _ => rfl) rfl dX11_feed_89 ?_
    refine j_getf o (g := 3) (slot := 1) (ci := 10) (v := .int (M25 3 1)) rfl jin_X10 (by decide) rfl jf_X11_117 (fun _ => rfl) rfl dX11_feed_92 ?_
    rw [hE]
    exact j_iret o dX11_feed_95 ⟨_, rfl, rfl, rfl, h⟩
  · replace h := h.2 c16
    refine j_iconst o (v := (-1)) dX11_feed_44 rfl ?_
    rw [hE]
    exact j_iret o dX11_feed_45 ⟨_, rfl, rfl, rfl, h⟩

abbrev rm_X11_end : Room := { frames := 0, cells := 0, slots := 0, locals := 0 }
def w_X11_end (P : jP) (a1 : Int32) (M : jM) (Q : Int32 → jM → Prop) : Prop :=
  (a1 < 0 → (
   Q 0 M
  )) ∧ (¬ a1 < 0 → (
   (a1 ≤ (M 3 1) → (
    Q 1 (upM M 3 1 a1)
   )) ∧ (¬ a1 ≤ (M 3 1) → (
    Q 0 M
   ))
  ))
set_option maxRecDepth 20000 in
theorem c_X11_end (l : Launch) (P : jP) (a1 : Int32) (M : jM) (N : jN) (Q : Int32 → jM → Prop) (h : w_X11_end P a1 M Q) : jC l yX11_end cX11_end 2 (some .boolean) rm_X11_end LC [.ref (P.1 1), .int a1] P M N (jqi P (fun r M' N' => N = N' ∧ Q r M' )) := by
  refine jC_of (by decide +kernel) [(0, .ref (P.1 1)), (1, .int a1)] (Nat.le_of_ble_eq_true rfl) rfl (fun X o => ?_)
  obtain ⟨E, hE⟩ : ∃ E, E = jE X rm_X11_end (jqi P (fun r M' N' => N = N' ∧ Q r M' )) := ⟨_, rfl⟩
  rw [← hE]
  unfold w_X11_end at h
  refine j_iload_n o dX11_end_0 rfl ?_
  refine j_if_lt o (tgt := 15) dX11_end_1 (by decide) (fun c1 => ?_) (fun c1 => ?_)
  · replace h := h.1 c1
    refine j_iconst o (v := 0) dX11_end_15 rfl ?_
    rw [hE]
    exact j_zret o rfl dX11_end_16 ⟨_, rfl, rfl, rfl, h⟩
  · replace h := h.2 c1
    refine j_iload_n o dX11_end_4 rfl ?_
    refine j_aload_n o dX11_end_5 rfl ?_
    refine j_getf o (g := 1) (slot := 1) (ci := 11) (v := .ref (P.1 3)) rfl jin_X11 (by decide) rfl jf_X11_30 (fun _ => rfl) rfl dX11_end_6 ?_
    refine j_getf o (g := 3) (slot := 1) (ci := 10) (v := .int (M 3 1)) rfl jin_X10 (by decide) rfl jf_X11_117 (fun _ => rfl) rfl dX11_end_9 ?_
    refine j_icmp_le o (tgt := 17) dX11_end_12 (by decide) (fun c2 => ?_) (fun c2 => ?_)
    · replace h := h.1 c2
      refine j_aload_n o dX11_end_17 rfl ?_
      refine j_getf o (g := 1) (slot := 1) (ci := 11) (v := .ref (P.1 3)) rfl jin_X11 (by decide) rfl jf_X11_30 (fun _ => rfl) rfl dX11_end_18 ?_
      refine j_iload_n o dX11_end_21 rfl ?_
      refine j_putf o (M1 := upM M 3 1 a1) (N1 := N) (g := 3) (slot := 1) (ci := 10) (ty := .int) rfl jin_X10 tyX10_ok nmX10 (by decide) rfl rfl jf_X11_117 (by decide +kernel) rfl rfl (Nat.le_of_ble_eq_true rfl) (fun _ => rfl) (fun _ => rfl) (fun _ hj => upM_ne _ _ _ hj) (fun _ _ => rfl) dX11_end_22 ?_
      refine j_iconst o (v := 1) dX11_end_25 rfl ?_
      rw [hE]
      exact j_zret o rfl dX11_end_26 ⟨_, rfl, rfl, rfl, h⟩
    · replace h := h.2 c2
      refine j_iconst o (v := 0) dX11_end_15 rfl ?_
      rw [hE]
      exact j_zret o rfl dX11_end_16 ⟨_, rfl, rfl, rfl, h⟩

abbrev rm_X11_keepQuestion : Room := { frames := 3, cells := 0, slots := 0, locals := 71 }
def w_X11_keepQuestion (P : jP)  (M : jM) (Q : Int32 → jM → Prop) : Prop :=
  w_X6_added P M (fun r1 M2 =>
  (r1 = (-1) → (
   Q r1 M2
  )) ∧ (¬ r1 = (-1) → (
   ∀ R15 : Int32 → jM → Prop, (∀ (x5 : Int32) (M6 : jM), (
    ((M6 2 2) ≤ x5 → (
     Q r1 M6
    )) ∧ (¬ (M6 2 2) ≤ x5 → (
     w_X7_questionHolds P x5 M6 (fun r8 =>
     ∀ R52 : jM → Prop, (∀ (M11 : jM), (
      R15 (x5 + 1) M11
     ) → R52 M11) →
     (r8 = 0 → (
      R52 M6
     )) ∧ (¬ r8 = 0 → (
      vp_in x5 (P.2.2 1) ∧
      vp_in x5 (P.2.2 1) ∧
      ∀ M15 : jM, M15 = upM M6 39 x5.toNatClampNeg ((M6 39 x5.toNatClampNeg) ||| ((1 : Int32) <<< (r1 &&& 31))) →
      R52 M15
     )))
    ))
   ) → R15 x5 M6) →
   R15 0 M2
  )))
set_option maxRecDepth 20000 in
theorem c_X11_keepQuestion (l : Launch) (P : jP)  (M : jM) (N : jN) (Q : Int32 → jM → Prop) (h : w_X11_keepQuestion P M Q) : jC l yX11_keepQuestion cX11_keepQuestion 3 (some .int) rm_X11_keepQuestion LC [.ref (P.1 1)] P M N (jqi P (fun r M' N' => N = N' ∧ Q r M' )) := by
  refine jC_of (by decide +kernel) [(0, .ref (P.1 1))] (Nat.le_of_ble_eq_true rfl) rfl (fun X o => ?_)
  obtain ⟨E, hE⟩ : ∃ E, E = jE X rm_X11_keepQuestion (jqi P (fun r M' N' => N = N' ∧ Q r M' )) := ⟨_, rfl⟩
  rw [← hE]
  unfold w_X11_keepQuestion at h
  refine j_aload_n o dX11_keepQuestion_0 rfl ?_
  refine j_getf o (g := 1) (slot := 7) (ci := 11) (v := .ref (P.1 9)) rfl jin_X11 (by decide) rfl jf_X11_82 (fun _ => rfl) rfl dX11_keepQuestion_1 ?_
  refine j_callVi (g := 9) (ci := 6) o (c_X6_added l P M N _ h) dX11_keepQuestion_4 jc_X11_174 jn_X6_added rfl rfl rfl (fun _ => rfl) rfl rfl (fun r1 M2 Nz3 h => ?_)
  obtain ⟨rfl, h⟩ := h
  refine j_istore_n o [(1, .int r1), (0, .ref (P.1 1))] dX11_keepQuestion_7 (by decide) rfl ?_
  refine j_iload_n o dX11_keepQuestion_8 rfl ?_
  refine j_iconst o (v := (-1)) dX11_keepQuestion_9 rfl ?_
  refine j_icmp_eq o (tgt := 58) dX11_keepQuestion_10 (by decide) (fun c4 => ?_) (fun c4 => ?_)
  · replace h := h.1 c4
    refine j_iload_n o dX11_keepQuestion_58 rfl ?_
    rw [hE]
    exact j_iret o dX11_keepQuestion_59 ⟨_, rfl, rfl, rfl, h⟩
  · replace h := h.2 c4
    refine j_iconst o (v := 0) dX11_keepQuestion_13 rfl ?_
    refine j_istore_n o [(2, .int 0), (1, .int r1), (0, .ref (P.1 1))] dX11_keepQuestion_14 (by decide) rfl ?_
    replace h := h (fun (x5 : Int32) (M6 : jM) => J X P M6 N 0 0 E 3 15 [(0, .ref (P.1 1)), (1, .int r1), (2, .int x5)] []) (by
      intro x5 M6 h
      refine j_iload_n o dX11_keepQuestion_15 rfl ?_
      refine j_aload_n o dX11_keepQuestion_16 rfl ?_
      refine j_getf o (g := 1) (slot := 0) (ci := 11) (v := .ref (P.1 2)) rfl jin_X11 (by decide) rfl jf_X11_23 (fun _ => rfl) rfl dX11_keepQuestion_17 ?_
      refine j_getf o (g := 2) (slot := 2) (ci := 3) (v := .int (M6 2 2)) rfl jin_X3 (by decide) rfl jf_X11_77 (fun _ => rfl) rfl dX11_keepQuestion_20 ?_
      refine j_icmp_ge o (tgt := 58) dX11_keepQuestion_23 (by decide) (fun c7 => ?_) (fun c7 => ?_)
      · replace h := h.1 c7
        refine j_iload_n o dX11_keepQuestion_58 rfl ?_
        rw [hE]
        exact j_iret o dX11_keepQuestion_59 ⟨_, rfl, rfl, rfl, h⟩
      · replace h := h.2 c7
        refine j_aload_n o dX11_keepQuestion_26 rfl ?_
        refine j_getf o (g := 1) (slot := 2) (ci := 11) (v := .ref (P.1 4)) rfl jin_X11 (by decide) rfl jf_X11_39 (fun _ => rfl) rfl dX11_keepQuestion_27 ?_
        refine j_iload_n o dX11_keepQuestion_30 rfl ?_
        refine j_callVi (g := 4) (ci := 7) o (c_X7_questionHolds l P x5 M6 N _ h) dX11_keepQuestion_31 jc_X11_177 jn_X7_questionHolds rfl rfl rfl (fun _ => rfl) rfl rfl (fun r8 Mz9 Nz10 h => ?_)
        obtain ⟨rfl, rfl, h⟩ := h
        replace h := h (fun (M11 : jM) => J X P M11 N 0 0 E 3 52 [(0, .ref (P.1 1)), (1, .int r1), (2, .int x5)] []) (by
          intro M11 h
          refine j_iinc o (v := x5 + 1) [(2, .int (x5 + 1)), (0, .ref (P.1 1)), (1, .int r1)] dX11_keepQuestion_52 rfl rfl (by decide) rfl ?_
          refine j_goto o (tgt := 15) dX11_keepQuestion_55 (by decide) ?_
          exact j_pick [1, 2, 0] rfl h)
        refine j_if_eq o (tgt := 52) dX11_keepQuestion_34 (by decide) (fun c12 => ?_) (fun c12 => ?_)
        · replace h := h.1 c12
          exact j_pick [0, 1, 2] rfl h
        · replace h := h.2 c12
          refine j_aload_n o dX11_keepQuestion_37 rfl ?_
          refine j_getf o (g := 1) (slot := 7) (ci := 11) (v := .ref (P.1 9)) rfl jin_X11 (by decide) rfl jf_X11_82 (fun _ => rfl) rfl dX11_keepQuestion_38 ?_
          refine j_getf o (g := 9) (slot := 2) (ci := 6) (v := .ref (P.1 39)) rfl jin_X6 (by decide) rfl jf_X11_181 (fun _ => rfl) rfl dX11_keepQuestion_41 ?_
          refine j_iload_n o dX11_keepQuestion_44 rfl ?_
          refine j_dup2 o dX11_keepQuestion_45 rfl rfl ?_
          obtain ⟨hb13, h⟩ := h
          refine j_iald o (g := 39) (fun _ => rfl) hb13 dX11_keepQuestion_46 ?_
          refine j_iconst o (v := 1) dX11_keepQuestion_47 rfl ?_
          refine j_iload_n o dX11_keepQuestion_48 rfl ?_
          refine j_ishl o dX11_keepQuestion_49 ?_
          refine j_ior o dX11_keepQuestion_50 ?_
          obtain ⟨hb14, h⟩ := h
          refine j_iast o (g := 39) (fun _ _ _ => rfl) hb14 dX11_keepQuestion_51 ?_
          refine j_nameM (fun M15 hM15 => ?_)
          replace h := h M15 hM15
          exact j_pick [0, 1, 2] rfl h)
    exact j_pick [2, 1, 0] rfl h

abbrev rm_X11_lawAt : Room := { frames := 0, cells := 0, slots := 0, locals := 0 }
def w_X11_lawAt (P : jP) (a1 : Int32) (M : jM) (Q : Nat → Prop) : Prop :=
  ∀ R21 : Prop, ((
   Q 0
  ) → R21) →
  (a1 < 0 → (
   R21
  )) ∧ (¬ a1 < 0 → (
   ((M 1 10) ≤ a1 → (
    R21
   )) ∧ (¬ (M 1 10) ≤ a1 → (
    vp_in a1 (6) ∧
    Q ((M 11 a1.toNatClampNeg).toNatClampNeg)
   ))
  ))
set_option maxRecDepth 20000 in
theorem c_X11_lawAt (l : Launch) (P : jP) (a1 : Int32) (M : jM) (N : jN) (Q : Nat → Prop) (h : w_X11_lawAt P a1 M Q) : jC l yX11_lawAt cX11_lawAt 2 (some (.object "CoalForm$Law")) rm_X11_lawAt LC [.ref (P.1 1), .int a1] P M N (jqr P (fun r M' N' => M = M' ∧ N = N' ∧ Q r )) := by
  refine jC_of (by decide +kernel) [(0, .ref (P.1 1)), (1, .int a1)] (Nat.le_of_ble_eq_true rfl) rfl (fun X o => ?_)
  obtain ⟨E, hE⟩ : ∃ E, E = jE X rm_X11_lawAt (jqr P (fun r M' N' => M = M' ∧ N = N' ∧ Q r )) := ⟨_, rfl⟩
  rw [← hE]
  unfold w_X11_lawAt at h
  refine j_iload_n o dX11_lawAt_0 rfl ?_
  replace h := h (J X P M N 0 0 E 2 21 [] []) (by
    intro h
    refine j_null o dX11_lawAt_21 ?_
    rw [hE]
    rw [← jrf_0 P]
    exact j_aret o rfl (jrf_ref P _) dX11_lawAt_22 ⟨_, rfl, rfl, rfl, rfl, h⟩)
  refine j_if_lt o (tgt := 21) dX11_lawAt_1 (by decide) (fun c1 => ?_) (fun c1 => ?_)
  · replace h := h.1 c1
    exact j_pick [] rfl h
  · replace h := h.2 c1
    refine j_iload_n o dX11_lawAt_4 rfl ?_
    refine j_aload_n o dX11_lawAt_5 rfl ?_
    refine j_getf o (g := 1) (slot := 10) (ci := 11) (v := .int (M 1 10)) rfl jin_X11 (by decide) rfl jf_X11_136 (fun _ => rfl) rfl dX11_lawAt_6 ?_
    refine j_icmp_ge o (tgt := 21) dX11_lawAt_9 (by decide) (fun c2 => ?_) (fun c2 => ?_)
    · replace h := h.1 c2
      exact j_pick [] rfl h
    · replace h := h.2 c2
      refine j_aload_n o dX11_lawAt_12 rfl ?_
      refine j_getf o (g := 1) (slot := 9) (ci := 11) (v := .ref (P.1 11)) rfl jin_X11 (by decide) rfl jf_X11_95 (fun _ => rfl) rfl dX11_lawAt_13 ?_
      refine j_iload_n o dX11_lawAt_16 rfl ?_
      obtain ⟨hb3, h⟩ := h
      refine j_aaldLaw o (g := 11) (fun _ => rfl) hb3 dX11_lawAt_17 ?_
      refine j_goto o (tgt := 22) dX11_lawAt_18 (by decide) ?_
      rw [hE]
      exact j_aret o rfl (jrf_ref P _) dX11_lawAt_22 ⟨_, rfl, rfl, rfl, rfl, h⟩

abbrev rm_X11_formAt : Room := { frames := 0, cells := 0, slots := 0, locals := 0 }
def w_X11_formAt (P : jP) (a1 : Int32) (M : jM) (Q : Nat → Prop) : Prop :=
  ∀ R21 : Prop, ((
   Q 0
  ) → R21) →
  (a1 < 0 → (
   R21
  )) ∧ (¬ a1 < 0 → (
   ((M 1 12) ≤ a1 → (
    R21
   )) ∧ (¬ (M 1 12) ≤ a1 → (
    vp_in a1 (6) ∧
    Q ((M 12 a1.toNatClampNeg).toNatClampNeg)
   ))
  ))
set_option maxRecDepth 20000 in
theorem c_X11_formAt (l : Launch) (P : jP) (a1 : Int32) (M : jM) (N : jN) (Q : Nat → Prop) (h : w_X11_formAt P a1 M Q) : jC l yX11_formAt cX11_formAt 2 (some (.object "CoalForm$Form")) rm_X11_formAt LC [.ref (P.1 1), .int a1] P M N (jqr P (fun r M' N' => M = M' ∧ N = N' ∧ Q r )) := by
  refine jC_of (by decide +kernel) [(0, .ref (P.1 1)), (1, .int a1)] (Nat.le_of_ble_eq_true rfl) rfl (fun X o => ?_)
  obtain ⟨E, hE⟩ : ∃ E, E = jE X rm_X11_formAt (jqr P (fun r M' N' => M = M' ∧ N = N' ∧ Q r )) := ⟨_, rfl⟩
  rw [← hE]
  unfold w_X11_formAt at h
  refine j_iload_n o dX11_formAt_0 rfl ?_
  replace h := h (J X P M N 0 0 E 2 21 [] []) (by
    intro h
    refine j_null o dX11_formAt_21 ?_
    rw [hE]
    rw [← jrf_0 P]
    exact j_aret o rfl (jrf_ref P _) dX11_formAt_22 ⟨_, rfl, rfl, rfl, rfl, h⟩)
  refine j_if_lt o (tgt := 21) dX11_formAt_1 (by decide) (fun c1 => ?_) (fun c1 => ?_)
  · replace h := h.1 c1
    exact j_pick [] rfl h
  · replace h := h.2 c1
    refine j_iload_n o dX11_formAt_4 rfl ?_
    refine j_aload_n o dX11_formAt_5 rfl ?_
    refine j_getf o (g := 1) (slot := 12) (ci := 11) (v := .int (M 1 12)) rfl jin_X11 (by decide) rfl jf_X11_184 (fun _ => rfl) rfl dX11_formAt_6 ?_
    refine j_icmp_ge o (tgt := 21) dX11_formAt_9 (by decide) (fun c2 => ?_) (fun c2 => ?_)
    · replace h := h.1 c2
      exact j_pick [] rfl h
    · replace h := h.2 c2
      refine j_aload_n o dX11_formAt_12 rfl ?_
      refine j_getf o (g := 1) (slot := 11) (ci := 11) (v := .ref (P.1 12)) rfl jin_X11 (by decide) rfl jf_X11_101 (fun _ => rfl) rfl dX11_formAt_13 ?_
      refine j_iload_n o dX11_formAt_16 rfl ?_
      obtain ⟨hb3, h⟩ := h
      refine j_aaldForm o (g := 12) (fun _ => rfl) hb3 dX11_formAt_17 ?_
      refine j_goto o (tgt := 22) dX11_formAt_18 (by decide) ?_
      rw [hE]
      exact j_aret o rfl (jrf_ref P _) dX11_formAt_22 ⟨_, rfl, rfl, rfl, rfl, h⟩

abbrev rm_X11_clauses : Room := { frames := 1, cells := 0, slots := 0, locals := 21 }
def w_X11_clauses (P : jP) (a1 : Int32) (a2 : Int32) (M : jM) (Q : Int32 → Prop) : Prop :=
  w_X11_lawAt P a1 M (fun r1 =>
  (r1 = 0 → (
   Q (-1)
  )) ∧ (r1 ≠ 0 → (
   w_X3_isCase P a2 M (fun r5 =>
   (¬ r5 = 0 → (
    cLw P r1 = true ∧
    jin P (r1 + 2) a2 ∧
    Q (M (r1 + 2) a2.toNatClampNeg)
   )) ∧ (r5 = 0 → (
    Q (-1)
   )))
  )))
set_option maxRecDepth 20000 in
theorem c_X11_clauses (l : Launch) (P : jP) (a1 : Int32) (a2 : Int32) (M : jM) (N : jN) (Q : Int32 → Prop) (h : w_X11_clauses P a1 a2 M Q) : jC l yX11_clauses cX11_clauses 4 (some .int) rm_X11_clauses LC [.ref (P.1 1), .int a1, .int a2] P M N (jqi P (fun r M' N' => M = M' ∧ N = N' ∧ Q r )) := by
  refine jC_of (by decide +kernel) [(0, .ref (P.1 1)), (1, .int a1), (2, .int a2)] (Nat.le_of_ble_eq_true rfl) rfl (fun X o => ?_)
  obtain ⟨E, hE⟩ : ∃ E, E = jE X rm_X11_clauses (jqi P (fun r M' N' => M = M' ∧ N = N' ∧ Q r )) := ⟨_, rfl⟩
  rw [← hE]
  unfold w_X11_clauses at h
  refine j_aload_n o dX11_clauses_0 rfl ?_
  refine j_iload_n o dX11_clauses_1 rfl ?_
  refine j_callVr (g := 1) (ci := 11) o (c_X11_lawAt l P a1 M N _ h) dX11_clauses_2 jc_X11_191 jn_X11_lawAt rfl rfl rfl (fun _ => rfl) rfl rfl (fun r1 Mz2 Nz3 h => ?_)
  obtain ⟨rfl, rfl, h⟩ := h
  refine j_qstore_n o [(3, jrf P r1), (0, .ref (P.1 1)), (1, .int a1), (2, .int a2)] dX11_clauses_5 (by decide) rfl ?_
  refine j_qload_n o (g := r1) rfl dX11_clauses_6 ?_
  refine j_null2 o (tgt := 21) dX11_clauses_7 (by decide) (fun c4 => ?_) (fun c4 => ?_)
  · replace h := h.1 c4
    refine j_iconst o (v := (-1)) dX11_clauses_21 rfl ?_
    refine j_goto o (tgt := 31) dX11_clauses_22 (by decide) ?_
    rw [hE]
    exact j_iret o dX11_clauses_31 ⟨_, rfl, rfl, rfl, rfl, h⟩
  · replace h := h.2 c4
    try rw [jrf_n P c4]
    refine j_aload_n o dX11_clauses_10 rfl ?_
    refine j_getf o (g := 1) (slot := 0) (ci := 11) (v := .ref (P.1 2)) rfl jin_X11 (by decide) rfl jf_X11_23 (fun _ => rfl) rfl dX11_clauses_11 ?_
    refine j_iload_n o dX11_clauses_14 rfl ?_
    refine j_callVi (g := 2) (ci := 3) o (c_X3_isCase l P a2 M N _ h) dX11_clauses_15 jc_X11_195 jn_X3_isCase rfl rfl rfl (fun _ => rfl) rfl rfl (fun r5 Mz6 Nz7 h => ?_)
    obtain ⟨rfl, rfl, h⟩ := h
    refine j_if_ne o (tgt := 25) dX11_clauses_18 (by decide) (fun c8 => ?_) (fun c8 => ?_)
    · replace h := h.1 c8
      refine j_aload_n o dX11_clauses_25 rfl ?_
      obtain ⟨hb9, h⟩ := h
      refine j_getf o (g := r1) (slot := 2) (ci := 4) (v := .ref (P.1 (r1 + 2))) rfl jin_X4 (by decide) rfl jf_X11_158 (fun tA => LC_lw hb9 tA _ _) rfl dX11_clauses_26 ?_
      refine j_iload_n o dX11_clauses_29 rfl ?_
      obtain ⟨hb10, h⟩ := h
      obtain ⟨nnhb10, hchb10, hihb10⟩ := hb10
      refine j_iald o (g := r1 + 2) (fun tA => LC_ia hchb10 tA _ _) hihb10 dX11_clauses_30 ?_
      rw [hE]
      exact j_iret o dX11_clauses_31 ⟨_, rfl, rfl, rfl, rfl, h⟩
    · replace h := h.2 c8
      refine j_iconst o (v := (-1)) dX11_clauses_21 rfl ?_
      refine j_goto o (tgt := 31) dX11_clauses_22 (by decide) ?_
      rw [hE]
      exact j_iret o dX11_clauses_31 ⟨_, rfl, rfl, rfl, rfl, h⟩

abbrev rm_X11_hit : Room := { frames := 0, cells := 0, slots := 0, locals := 0 }
def w_X11_hit (P : jP) (a1 : Int32) (a2 : Int32) (M : jM) (Q : Int32 → Prop) : Prop :=
  (¬ a2 = (-1) → (
   (a2 < 0 → (
    Q (-1)
   )) ∧ (¬ a2 < 0 → (
    (a1 ≤ a2 → (
     Q (-1)
    )) ∧ (¬ a1 ≤ a2 → (
     ((Int32.ofNat (P.2.2 1)) ≤ a2 → (
      Q (-1)
     )) ∧ (¬ (Int32.ofNat (P.2.2 1)) ≤ a2 → (
      vp_in a2 (P.2.2 1) ∧
      Q (M 13 a2.toNatClampNeg)
     ))
    ))
   ))
  )) ∧ (a2 = (-1) → (
   Q a1
  ))
set_option maxRecDepth 20000 in
theorem c_X11_hit (l : Launch) (P : jP) (a1 : Int32) (a2 : Int32) (M : jM) (N : jN) (Q : Int32 → Prop) (h : w_X11_hit P a1 a2 M Q) : jC l yX11_hit cX11_hit 3 (some .int) rm_X11_hit LC [.ref (P.1 1), .int a1, .int a2] P M N (jqi P (fun r M' N' => M = M' ∧ N = N' ∧ Q r )) := by
  refine jC_of (by decide +kernel) [(0, .ref (P.1 1)), (1, .int a1), (2, .int a2)] (Nat.le_of_ble_eq_true rfl) rfl (fun X o => ?_)
  obtain ⟨E, hE⟩ : ∃ E, E = jE X rm_X11_hit (jqi P (fun r M' N' => M = M' ∧ N = N' ∧ Q r )) := ⟨_, rfl⟩
  rw [← hE]
  unfold w_X11_hit at h
  refine j_iload_n o dX11_hit_0 rfl ?_
  refine j_iconst o (v := (-1)) dX11_hit_1 rfl ?_
  refine j_icmp_ne o (tgt := 7) dX11_hit_2 (by decide) (fun c1 => ?_) (fun c1 => ?_)
  · replace h := h.1 c1
    refine j_iload_n o dX11_hit_7 rfl ?_
    refine j_if_lt o (tgt := 34) dX11_hit_8 (by decide) (fun c2 => ?_) (fun c2 => ?_)
    · replace h := h.1 c2
      refine j_iconst o (v := (-1)) dX11_hit_34 rfl ?_
      rw [hE]
      exact j_iret o dX11_hit_35 ⟨_, rfl, rfl, rfl, rfl, h⟩
    · replace h := h.2 c2
      refine j_iload_n o dX11_hit_11 rfl ?_
      refine j_iload_n o dX11_hit_12 rfl ?_
      refine j_icmp_ge o (tgt := 34) dX11_hit_13 (by decide) (fun c3 => ?_) (fun c3 => ?_)
      · replace h := h.1 c3
        refine j_iconst o (v := (-1)) dX11_hit_34 rfl ?_
        rw [hE]
        exact j_iret o dX11_hit_35 ⟨_, rfl, rfl, rfl, rfl, h⟩
      · replace h := h.2 c3
        refine j_iload_n o dX11_hit_16 rfl ?_
        refine j_aload_n o dX11_hit_17 rfl ?_
        refine j_getf o (g := 1) (slot := 13) (ci := 11) (v := .ref (P.1 13)) rfl jin_X11 (by decide) rfl jf_X11_105 (fun _ => rfl) rfl dX11_hit_18 ?_
        refine j_alen o (g := 13) (t0 := 0) (fun _ => rfl) (fun _ => rfl) dX11_hit_21 ?_
        refine j_icmp_ge o (tgt := 34) dX11_hit_22 (by decide) (fun c4 => ?_) (fun c4 => ?_)
        · replace h := h.1 c4
          refine j_iconst o (v := (-1)) dX11_hit_34 rfl ?_
          rw [hE]
          exact j_iret o dX11_hit_35 ⟨_, rfl, rfl, rfl, rfl, h⟩
        · replace h := h.2 c4
          refine j_aload_n o dX11_hit_25 rfl ?_
          refine j_getf o (g := 1) (slot := 13) (ci := 11) (v := .ref (P.1 13)) rfl jin_X11 (by decide) rfl jf_X11_105 (fun _ => rfl) rfl dX11_hit_26 ?_
          refine j_iload_n o dX11_hit_29 rfl ?_
          obtain ⟨hb5, h⟩ := h
          refine j_iald o (g := 13) (fun _ => rfl) hb5 dX11_hit_30 ?_
          refine j_goto o (tgt := 35) dX11_hit_31 (by decide) ?_
          rw [hE]
          exact j_iret o dX11_hit_35 ⟨_, rfl, rfl, rfl, rfl, h⟩
  · replace h := h.2 c1
    refine j_iload_n o dX11_hit_5 rfl ?_
    rw [hE]
    exact j_iret o dX11_hit_6 ⟨_, rfl, rfl, rfl, rfl, h⟩

abbrev rm_X11_gap : Room := { frames := 1, cells := 0, slots := 0, locals := 22 }
def w_X11_gap (P : jP) (a1 : Int32) (a2 : Int32) (a3 : Int32) (M : jM) (Q : Int32 → jM → Prop) : Prop :=
  w_X11_lawAt P a1 M (fun r1 =>
  (r1 = 0 → (
   Q (-1) M
  )) ∧ (r1 ≠ 0 → (
   (a2 < 0 → (
    Q (-1) M
   )) ∧ (¬ a2 < 0 → (
    (a2 ≤ 1 → (
     ∀ R29 : Int32 → Int32 → jM → Prop, (∀ (x7 : Int32) (x8 : Int32) (M9 : jM), (
      ((M9 2 2) ≤ x8 → (
       w_X11_hit P x7 a3 M9 (fun r11 =>
       Q r11 M9)
      )) ∧ (¬ (M9 2 2) ≤ x8 → (
       ∀ R82 : Int32 → jM → Prop, (∀ (x14 : Int32) (M15 : jM), (
        R29 x14 (x8 + 1) M15
       ) → R82 x14 M15) →
       ∀ R70 : Prop, ((
        vp_in x7 (P.2.2 1) ∧
        R82 (x7 + 1) (upM M9 13 x7.toNatClampNeg x8)
       ) → R70) →
       (¬ a2 = 0 → (
        cLw P r1 = true ∧
        jin P (r1 + 3) x8 ∧
        (¬ (M9 (r1 + 3) x8.toNatClampNeg) = (-1) → (
         R82 x7 M9
        )) ∧ ((M9 (r1 + 3) x8.toNatClampNeg) = (-1) → (
         R70
        ))
       )) ∧ (a2 = 0 → (
        cLw P r1 = true ∧
        w_X4_clashes P r1 x8 M9 (fun r21 =>
        (r21 = 0 → (
         R82 x7 M9
        )) ∧ (¬ r21 = 0 → (
         R70
        )))
       ))
      ))
     ) → R29 x7 x8 M9) →
     R29 0 0 M
    )) ∧ (¬ a2 ≤ 1 → (
     Q (-1) M
    ))
   ))
  )))
set_option maxRecDepth 20000 in
theorem c_X11_gap (l : Launch) (P : jP) (a1 : Int32) (a2 : Int32) (a3 : Int32) (M : jM) (N : jN) (Q : Int32 → jM → Prop) (h : w_X11_gap P a1 a2 a3 M Q) : jC l yX11_gap cX11_gap 7 (some .int) rm_X11_gap LC [.ref (P.1 1), .int a1, .int a2, .int a3] P M N (jqi P (fun r M' N' => N = N' ∧ Q r M' )) := by
  refine jC_of (by decide +kernel) [(0, .ref (P.1 1)), (1, .int a1), (2, .int a2), (3, .int a3)] (Nat.le_of_ble_eq_true rfl) rfl (fun X o => ?_)
  obtain ⟨E, hE⟩ : ∃ E, E = jE X rm_X11_gap (jqi P (fun r M' N' => N = N' ∧ Q r M' )) := ⟨_, rfl⟩
  rw [← hE]
  unfold w_X11_gap at h
  refine j_aload_n o dX11_gap_0 rfl ?_
  refine j_iload_n o dX11_gap_1 rfl ?_
  refine j_callVr (g := 1) (ci := 11) o (c_X11_lawAt l P a1 M N _ h) dX11_gap_2 jc_X11_191 jn_X11_lawAt rfl rfl rfl (fun _ => rfl) rfl rfl (fun r1 Mz2 Nz3 h => ?_)
  obtain ⟨rfl, rfl, h⟩ := h
  refine j_qstore o [(4, jrf P r1), (0, .ref (P.1 1)), (1, .int a1), (2, .int a2), (3, .int a3)] dX11_gap_5 (by decide) rfl ?_
  refine j_qload o (g := r1) rfl dX11_gap_7 ?_
  refine j_null2 o (tgt := 21) dX11_gap_9 (by decide) (fun c4 => ?_) (fun c4 => ?_)
  · replace h := h.1 c4
    refine j_iconst o (v := (-1)) dX11_gap_21 rfl ?_
    rw [hE]
    exact j_iret o dX11_gap_22 ⟨_, rfl, rfl, rfl, h⟩
  · replace h := h.2 c4
    try rw [jrf_n P c4]
    refine j_iload_n o dX11_gap_12 rfl ?_
    refine j_if_lt o (tgt := 21) dX11_gap_13 (by decide) (fun c5 => ?_) (fun c5 => ?_)
    · replace h := h.1 c5
      refine j_iconst o (v := (-1)) dX11_gap_21 rfl ?_
      rw [hE]
      exact j_iret o dX11_gap_22 ⟨_, rfl, rfl, rfl, h⟩
    · replace h := h.2 c5
      refine j_iload_n o dX11_gap_16 rfl ?_
      refine j_iconst o (v := 1) dX11_gap_17 rfl ?_
      refine j_icmp_le o (tgt := 23) dX11_gap_18 (by decide) (fun c6 => ?_) (fun c6 => ?_)
      · replace h := h.1 c6
        refine j_iconst o (v := 0) dX11_gap_23 rfl ?_
        refine j_istore o [(5, .int 0), (4, .ref (P.1 r1)), (0, .ref (P.1 1)), (1, .int a1), (2, .int a2), (3, .int a3)] dX11_gap_24 (by decide) rfl ?_
        refine j_iconst o (v := 0) dX11_gap_26 rfl ?_
        refine j_istore o [(6, .int 0), (5, .int 0), (4, .ref (P.1 r1)), (0, .ref (P.1 1)), (1, .int a1), (2, .int a2), (3, .int a3)] dX11_gap_27 (by decide) rfl ?_
        replace h := h (fun (x7 : Int32) (x8 : Int32) (M9 : jM) => J X P M9 N 0 0 E 7 29 [(0, .ref (P.1 1)), (2, .int a2), (3, .int a3), (4, .ref (P.1 r1)), (5, .int x7), (6, .int x8)] []) (by
          intro x7 x8 M9 h
          refine j_iload o dX11_gap_29 rfl ?_
          refine j_aload_n o dX11_gap_31 rfl ?_
          refine j_getf o (g := 1) (slot := 0) (ci := 11) (v := .ref (P.1 2)) rfl jin_X11 (by decide) rfl jf_X11_23 (fun _ => rfl) rfl dX11_gap_32 ?_
          refine j_getf o (g := 2) (slot := 2) (ci := 3) (v := .int (M9 2 2)) rfl jin_X3 (by decide) rfl jf_X11_77 (fun _ => rfl) rfl dX11_gap_35 ?_
          refine j_icmp_ge o (tgt := 88) dX11_gap_38 (by decide) (fun c10 => ?_) (fun c10 => ?_)
          · replace h := h.1 c10
            refine j_aload_n o dX11_gap_88 rfl ?_
            refine j_iload o dX11_gap_89 rfl ?_
            refine j_iload_n o dX11_gap_91 rfl ?_
            refine j_callVi (g := 1) (ci := 11) o (c_X11_hit l P x7 a3 M9 N _ h) dX11_gap_92 jc_X11_204 jn_X11_hit rfl rfl rfl (fun _ => rfl) rfl rfl (fun r11 Mz12 Nz13 h => ?_)
            obtain ⟨rfl, rfl, h⟩ := h
            rw [hE]
            exact j_iret o dX11_gap_95 ⟨_, rfl, rfl, rfl, h⟩
          · replace h := h.2 c10
            refine j_iload_n o dX11_gap_41 rfl ?_
            replace h := h (fun (x14 : Int32) (M15 : jM) => J X P M15 N 0 0 E 7 82 [(0, .ref (P.1 1)), (2, .int a2), (3, .int a3), (4, .ref (P.1 r1)), (5, .int x14), (6, .int x8)] []) (by
              intro x14 M15 h
              refine j_iinc o (v := x8 + 1) [(6, .int (x8 + 1)), (0, .ref (P.1 1)), (2, .int a2), (3, .int a3), (4, .ref (P.1 r1)), (5, .int x14)] dX11_gap_82 rfl rfl (by decide) rfl ?_
              refine j_goto o (tgt := 29) dX11_gap_85 (by decide) ?_
              exact j_pick [1, 2, 3, 4, 5, 0] rfl h)
            replace h := h (J X P M9 N 0 0 E 7 70 [(0, .ref (P.1 1)), (2, .int a2), (3, .int a3), (4, .ref (P.1 r1)), (5, .int x7), (6, .int x8)] []) (by
              intro h
              refine j_aload_n o dX11_gap_70 rfl ?_
              refine j_getf o (g := 1) (slot := 13) (ci := 11) (v := .ref (P.1 13)) rfl jin_X11 (by decide) rfl jf_X11_105 (fun _ => rfl) rfl dX11_gap_71 ?_
              refine j_iload o dX11_gap_74 rfl ?_
              refine j_iinc o (v := x7 + 1) [(5, .int (x7 + 1)), (0, .ref (P.1 1)), (2, .int a2), (3, .int a3), (4, .ref (P.1 r1)), (6, .int x8)] dX11_gap_76 rfl rfl (by decide) rfl ?_
              refine j_iload o dX11_gap_79 rfl ?_
              obtain ⟨hb16, h⟩ := h
              refine j_iast o (g := 13) (fun _ _ _ => rfl) hb16 dX11_gap_81 ?_
              exact j_pick [1, 2, 3, 4, 0, 5] rfl h)
            refine j_if_ne o (tgt := 58) dX11_gap_42 (by decide) (fun c17 => ?_) (fun c17 => ?_)
            · replace h := h.1 c17
              refine j_aload o dX11_gap_58 rfl ?_
              obtain ⟨hb18, h⟩ := h
              refine j_getf o (g := r1) (slot := 3) (ci := 4) (v := .ref (P.1 (r1 + 3))) rfl jin_X4 (by decide) rfl jf_X11_164 (fun tA => LC_lw hb18 tA _ _) rfl dX11_gap_60 ?_
              refine j_iload o dX11_gap_63 rfl ?_
              obtain ⟨hb19, h⟩ := h
              obtain ⟨nnhb19, hchb19, hihb19⟩ := hb19
              refine j_iald o (g := r1 + 3) (fun tA => LC_ia hchb19 tA _ _) hihb19 dX11_gap_65 ?_
              refine j_iconst o (v := (-1)) dX11_gap_66 rfl ?_
              refine j_icmp_ne o (tgt := 82) dX11_gap_67 (by decide) (fun c20 => ?_) (fun c20 => ?_)
              · replace h := h.1 c20
                exact j_pick [0, 1, 2, 3, 4, 5] rfl h
              · replace h := h.2 c20
                exact j_pick [0, 1, 2, 3, 4, 5] rfl h
            · replace h := h.2 c17
              refine j_aload o dX11_gap_45 rfl ?_
              refine j_iload o dX11_gap_47 rfl ?_
              obtain ⟨hb24, h⟩ := h
              refine j_callVi (g := r1) (ci := 4) o (c_X4_clashes l P r1 x8 M9 N _ h) dX11_gap_49 jc_X11_201 jn_X4_clashes rfl rfl rfl (fun tA => LC_lw hb24 tA _ _) rfl rfl (fun r21 Mz22 Nz23 h => ?_)
              obtain ⟨rfl, rfl, h⟩ := h
              refine j_if_eq o (tgt := 82) dX11_gap_52 (by decide) (fun c25 => ?_) (fun c25 => ?_)
              · replace h := h.1 c25
                exact j_pick [0, 1, 2, 3, 4, 5] rfl h
              · replace h := h.2 c25
                refine j_goto o (tgt := 70) dX11_gap_55 (by decide) ?_
                exact j_pick [0, 1, 2, 3, 4, 5] rfl h)
        exact j_pick [3, 5, 6, 2, 1, 0] rfl h
      · replace h := h.2 c6
        refine j_iconst o (v := (-1)) dX11_gap_21 rfl ?_
        rw [hE]
        exact j_iret o dX11_gap_22 ⟨_, rfl, rfl, rfl, h⟩

abbrev rm_X11_hitsOfUnlike : Room := { frames := 1, cells := 0, slots := 0, locals := 22 }
def w_X11_hitsOfUnlike (P : jP) (a1 : Nat) (a2 : Nat) (a3 : Int32) (M : jM) (Q : Int32 → jM → Prop) : Prop :=
  ∀ R6 : Int32 → Int32 → jM → Prop, (∀ (x1 : Int32) (x2 : Int32) (M3 : jM), (
   ((M3 2 2) ≤ x2 → (
    w_X11_hit P x1 a3 M3 (fun r5 =>
    Q r5 M3)
   )) ∧ (¬ (M3 2 2) ≤ x2 → (
    jin P a1 x2 ∧
    jin P a2 x2 ∧
    ∀ R41 : Int32 → jM → Prop, (∀ (x10 : Int32) (M11 : jM), (
     R6 x10 (x2 + 1) M11
    ) → R41 x10 M11) →
    ((M3 a1 x2.toNatClampNeg) = (M3 a2 x2.toNatClampNeg) → (
     R41 x1 M3
    )) ∧ (¬ (M3 a1 x2.toNatClampNeg) = (M3 a2 x2.toNatClampNeg) → (
     vp_in x1 (P.2.2 1) ∧
     R41 (x1 + 1) (upM M3 13 x1.toNatClampNeg x2)
    ))
   ))
  ) → R6 x1 x2 M3) →
  R6 0 0 M
set_option maxRecDepth 20000 in
theorem c_X11_hitsOfUnlike (l : Launch) (P : jP) (a1 : Nat) (a2 : Nat) (a3 : Int32) (M : jM) (N : jN) (Q : Int32 → jM → Prop) (h : w_X11_hitsOfUnlike P a1 a2 a3 M Q) : jC l yX11_hitsOfUnlike cX11_hitsOfUnlike 6 (some .int) rm_X11_hitsOfUnlike LC [.ref (P.1 1), .ref (P.1 a1), .ref (P.1 a2), .int a3] P M N (jqi P (fun r M' N' => N = N' ∧ Q r M' )) := by
  refine jC_of (by decide +kernel) [(0, .ref (P.1 1)), (1, .ref (P.1 a1)), (2, .ref (P.1 a2)), (3, .int a3)] (Nat.le_of_ble_eq_true rfl) rfl (fun X o => ?_)
  obtain ⟨E, hE⟩ : ∃ E, E = jE X rm_X11_hitsOfUnlike (jqi P (fun r M' N' => N = N' ∧ Q r M' )) := ⟨_, rfl⟩
  rw [← hE]
  unfold w_X11_hitsOfUnlike at h
  refine j_iconst o (v := 0) dX11_hitsOfUnlike_0 rfl ?_
  refine j_istore o [(4, .int 0), (0, .ref (P.1 1)), (1, .ref (P.1 a1)), (2, .ref (P.1 a2)), (3, .int a3)] dX11_hitsOfUnlike_1 (by decide) rfl ?_
  refine j_iconst o (v := 0) dX11_hitsOfUnlike_3 rfl ?_
  refine j_istore o [(5, .int 0), (4, .int 0), (0, .ref (P.1 1)), (1, .ref (P.1 a1)), (2, .ref (P.1 a2)), (3, .int a3)] dX11_hitsOfUnlike_4 (by decide) rfl ?_
  replace h := h (fun (x1 : Int32) (x2 : Int32) (M3 : jM) => J X P M3 N 0 0 E 6 6 [(0, .ref (P.1 1)), (1, .ref (P.1 a1)), (2, .ref (P.1 a2)), (3, .int a3), (4, .int x1), (5, .int x2)] []) (by
    intro x1 x2 M3 h
    refine j_iload o dX11_hitsOfUnlike_6 rfl ?_
    refine j_aload_n o dX11_hitsOfUnlike_8 rfl ?_
    refine j_getf o (g := 1) (slot := 0) (ci := 11) (v := .ref (P.1 2)) rfl jin_X11 (by decide) rfl jf_X11_23 (fun _ => rfl) rfl dX11_hitsOfUnlike_9 ?_
    refine j_getf o (g := 2) (slot := 2) (ci := 3) (v := .int (M3 2 2)) rfl jin_X3 (by decide) rfl jf_X11_77 (fun _ => rfl) rfl dX11_hitsOfUnlike_12 ?_
    refine j_icmp_ge o (tgt := 47) dX11_hitsOfUnlike_15 (by decide) (fun c4 => ?_) (fun c4 => ?_)
    · replace h := h.1 c4
      refine j_aload_n o dX11_hitsOfUnlike_47 rfl ?_
      refine j_iload o dX11_hitsOfUnlike_48 rfl ?_
      refine j_iload_n o dX11_hitsOfUnlike_50 rfl ?_
      refine j_callVi (g := 1) (ci := 11) o (c_X11_hit l P x1 a3 M3 N _ h) dX11_hitsOfUnlike_51 jc_X11_204 jn_X11_hit rfl rfl rfl (fun _ => rfl) rfl rfl (fun r5 Mz6 Nz7 h => ?_)
      obtain ⟨rfl, rfl, h⟩ := h
      rw [hE]
      exact j_iret o dX11_hitsOfUnlike_54 ⟨_, rfl, rfl, rfl, h⟩
    · replace h := h.2 c4
      refine j_aload_n o dX11_hitsOfUnlike_18 rfl ?_
      refine j_iload o dX11_hitsOfUnlike_19 rfl ?_
      obtain ⟨hb8, h⟩ := h
      obtain ⟨nnhb8, hchb8, hihb8⟩ := hb8
      refine j_iald o (g := a1) (fun tA => LC_ia hchb8 tA _ _) hihb8 dX11_hitsOfUnlike_21 ?_
      refine j_aload_n o dX11_hitsOfUnlike_22 rfl ?_
      refine j_iload o dX11_hitsOfUnlike_23 rfl ?_
      obtain ⟨hb9, h⟩ := h
      obtain ⟨nnhb9, hchb9, hihb9⟩ := hb9
      refine j_iald o (g := a2) (fun tA => LC_ia hchb9 tA _ _) hihb9 dX11_hitsOfUnlike_25 ?_
      replace h := h (fun (x10 : Int32) (M11 : jM) => J X P M11 N 0 0 E 6 41 [(0, .ref (P.1 1)), (1, .ref (P.1 a1)), (2, .ref (P.1 a2)), (3, .int a3), (4, .int x10), (5, .int x2)] []) (by
        intro x10 M11 h
        refine j_iinc o (v := x2 + 1) [(5, .int (x2 + 1)), (0, .ref (P.1 1)), (1, .ref (P.1 a1)), (2, .ref (P.1 a2)), (3, .int a3), (4, .int x10)] dX11_hitsOfUnlike_41 rfl rfl (by decide) rfl ?_
        refine j_goto o (tgt := 6) dX11_hitsOfUnlike_44 (by decide) ?_
        exact j_pick [1, 2, 3, 4, 5, 0] rfl h)
      refine j_icmp_eq o (tgt := 41) dX11_hitsOfUnlike_26 (by decide) (fun c12 => ?_) (fun c12 => ?_)
      · replace h := h.1 c12
        exact j_pick [0, 1, 2, 3, 4, 5] rfl h
      · replace h := h.2 c12
        refine j_aload_n o dX11_hitsOfUnlike_29 rfl ?_
        refine j_getf o (g := 1) (slot := 13) (ci := 11) (v := .ref (P.1 13)) rfl jin_X11 (by decide) rfl jf_X11_105 (fun _ => rfl) rfl dX11_hitsOfUnlike_30 ?_
        refine j_iload o dX11_hitsOfUnlike_33 rfl ?_
        refine j_iinc o (v := x1 + 1) [(4, .int (x1 + 1)), (0, .ref (P.1 1)), (1, .ref (P.1 a1)), (2, .ref (P.1 a2)), (3, .int a3), (5, .int x2)] dX11_hitsOfUnlike_35 rfl rfl (by decide) rfl ?_
        refine j_iload o dX11_hitsOfUnlike_38 rfl ?_
        obtain ⟨hb13, h⟩ := h
        refine j_iast o (g := 13) (fun _ _ _ => rfl) hb13 dX11_hitsOfUnlike_40 ?_
        exact j_pick [1, 2, 3, 4, 0, 5] rfl h)
  exact j_pick [2, 3, 4, 5, 1, 0] rfl h

abbrev rm_X11_sure : Room := { frames := 2, cells := 0, slots := 0, locals := 43 }
def w_X11_sure (P : jP) (a1 : Int32) (a2 : Int32) (a3 : Int32) (M : jM) (Q : Int32 → Prop) : Prop :=
  w_X11_lawAt P a1 M (fun r1 =>
  (r1 = 0 → (
   Q (-2)
  )) ∧ (r1 ≠ 0 → (
   w_X3_isKnown P a2 a3 M (fun r5 =>
   (¬ r5 = 0 → (
    w_X3_place P a2 a3 M (fun r9 =>
    cLw P r1 = true ∧
    w_X4_sureAt P r1 r9 M (fun r12 =>
    Q r12))
   )) ∧ (r5 = 0 → (
    Q (-2)
   )))
  )))
set_option maxRecDepth 20000 in
theorem c_X11_sure (l : Launch) (P : jP) (a1 : Int32) (a2 : Int32) (a3 : Int32) (M : jM) (N : jN) (Q : Int32 → Prop) (h : w_X11_sure P a1 a2 a3 M Q) : jC l yX11_sure cX11_sure 5 (some .int) rm_X11_sure LC [.ref (P.1 1), .int a1, .int a2, .int a3] P M N (jqi P (fun r M' N' => M = M' ∧ N = N' ∧ Q r )) := by
  refine jC_of (by decide +kernel) [(0, .ref (P.1 1)), (1, .int a1), (2, .int a2), (3, .int a3)] (Nat.le_of_ble_eq_true rfl) rfl (fun X o => ?_)
  obtain ⟨E, hE⟩ : ∃ E, E = jE X rm_X11_sure (jqi P (fun r M' N' => M = M' ∧ N = N' ∧ Q r )) := ⟨_, rfl⟩
  rw [← hE]
  unfold w_X11_sure at h
  refine j_aload_n o dX11_sure_0 rfl ?_
  refine j_iload_n o dX11_sure_1 rfl ?_
  refine j_callVr (g := 1) (ci := 11) o (c_X11_lawAt l P a1 M N _ h) dX11_sure_2 jc_X11_191 jn_X11_lawAt rfl rfl rfl (fun _ => rfl) rfl rfl (fun r1 Mz2 Nz3 h => ?_)
  obtain ⟨rfl, rfl, h⟩ := h
  refine j_qstore o [(4, jrf P r1), (0, .ref (P.1 1)), (1, .int a1), (2, .int a2), (3, .int a3)] dX11_sure_5 (by decide) rfl ?_
  refine j_qload o (g := r1) rfl dX11_sure_7 ?_
  refine j_null2 o (tgt := 24) dX11_sure_9 (by decide) (fun c4 => ?_) (fun c4 => ?_)
  · replace h := h.1 c4
    refine j_bipush o (v := (-2)) dX11_sure_24 rfl ?_
    refine j_goto o (tgt := 43) dX11_sure_26 (by decide) ?_
    rw [hE]
    exact j_iret o dX11_sure_43 ⟨_, rfl, rfl, rfl, rfl, h⟩
  · replace h := h.2 c4
    try rw [jrf_n P c4]
    refine j_aload_n o dX11_sure_12 rfl ?_
    refine j_getf o (g := 1) (slot := 0) (ci := 11) (v := .ref (P.1 2)) rfl jin_X11 (by decide) rfl jf_X11_23 (fun _ => rfl) rfl dX11_sure_13 ?_
    refine j_iload_n o dX11_sure_16 rfl ?_
    refine j_iload_n o dX11_sure_17 rfl ?_
    refine j_callVi (g := 2) (ci := 3) o (c_X3_isKnown l P a2 a3 M N _ h) dX11_sure_18 jc_X11_207 jn_X3_isKnown rfl rfl rfl (fun _ => rfl) rfl rfl (fun r5 Mz6 Nz7 h => ?_)
    obtain ⟨rfl, rfl, h⟩ := h
    refine j_if_ne o (tgt := 29) dX11_sure_21 (by decide) (fun c8 => ?_) (fun c8 => ?_)
    · replace h := h.1 c8
      refine j_aload o dX11_sure_29 rfl ?_
      refine j_aload_n o dX11_sure_31 rfl ?_
      refine j_getf o (g := 1) (slot := 0) (ci := 11) (v := .ref (P.1 2)) rfl jin_X11 (by decide) rfl jf_X11_23 (fun _ => rfl) rfl dX11_sure_32 ?_
      refine j_iload_n o dX11_sure_35 rfl ?_
      refine j_iload_n o dX11_sure_36 rfl ?_
      refine j_callVi (g := 2) (ci := 3) o (c_X3_place l P a2 a3 M N _ h) dX11_sure_37 jc_X11_211 jn_X3_place rfl rfl rfl (fun _ => rfl) rfl rfl (fun r9 Mz10 Nz11 h => ?_)
      obtain ⟨rfl, rfl, h⟩ := h
      obtain ⟨hb15, h⟩ := h
      refine j_callVi (g := r1) (ci := 4) o (c_X4_sureAt l P r1 r9 M N _ h) dX11_sure_40 jc_X11_214 jn_X4_sureAt rfl rfl rfl (fun tA => LC_lw hb15 tA _ _) rfl rfl (fun r12 Mz13 Nz14 h => ?_)
      obtain ⟨rfl, rfl, h⟩ := h
      rw [hE]
      exact j_iret o dX11_sure_43 ⟨_, rfl, rfl, rfl, rfl, h⟩
    · replace h := h.2 c8
      refine j_bipush o (v := (-2)) dX11_sure_24 rfl ?_
      refine j_goto o (tgt := 43) dX11_sure_26 (by decide) ?_
      rw [hE]
      exact j_iret o dX11_sure_43 ⟨_, rfl, rfl, rfl, rfl, h⟩

abbrev rm_X11_factsThatMatter : Room := { frames := 0, cells := 0, slots := 0, locals := 0 }
def w_X11_factsThatMatter (P : jP) (a1 : Nat) (a2 : Int32) (M : jM) (Q : Int32 → Prop) : Prop :=
  ∀ R5 : Int32 → Int32 → Prop, (∀ (x1 : Int32) (x2 : Int32), (
   ((M 2 0) ≤ x2 → (
    Q x1
   )) ∧ (¬ (M 2 0) ≤ x2 → (
    cLw P a1 = true ∧
    jin P (a1 + 3) a2 ∧
    cLw P a1 = true ∧
    jin P (a1 + 3) (a2 ^^^ ((1 : Int32) <<< (x2 &&& 31))) ∧
    ∀ R44 : Int32 → Prop, (∀ (x8 : Int32), (
     R5 x8 (x2 + 1)
    ) → R44 x8) →
    ((M (a1 + 3) a2.toNatClampNeg) = (M (a1 + 3) (a2 ^^^ ((1 : Int32) <<< (x2 &&& 31))).toNatClampNeg) → (
     R44 x1
    )) ∧ (¬ (M (a1 + 3) a2.toNatClampNeg) = (M (a1 + 3) (a2 ^^^ ((1 : Int32) <<< (x2 &&& 31))).toNatClampNeg) → (
     R44 (x1 ||| ((1 : Int32) <<< (x2 &&& 31)))
    ))
   ))
  ) → R5 x1 x2) →
  R5 0 0
set_option maxRecDepth 20000 in
theorem c_X11_factsThatMatter (l : Launch) (P : jP) (a1 : Nat) (a2 : Int32) (M : jM) (N : jN) (Q : Int32 → Prop) (h : w_X11_factsThatMatter P a1 a2 M Q) : jC l yX11_factsThatMatter cX11_factsThatMatter 5 (some .int) rm_X11_factsThatMatter LC [.ref (P.1 1), .ref (P.1 a1), .int a2] P M N (jqi P (fun r M' N' => M = M' ∧ N = N' ∧ Q r )) := by
  refine jC_of (by decide +kernel) [(0, .ref (P.1 1)), (1, .ref (P.1 a1)), (2, .int a2)] (Nat.le_of_ble_eq_true rfl) rfl (fun X o => ?_)
  obtain ⟨E, hE⟩ : ∃ E, E = jE X rm_X11_factsThatMatter (jqi P (fun r M' N' => M = M' ∧ N = N' ∧ Q r )) := ⟨_, rfl⟩
  rw [← hE]
  unfold w_X11_factsThatMatter at h
  refine j_iconst o (v := 0) dX11_factsThatMatter_0 rfl ?_
  refine j_istore_n o [(3, .int 0), (0, .ref (P.1 1)), (1, .ref (P.1 a1)), (2, .int a2)] dX11_factsThatMatter_1 (by decide) rfl ?_
  refine j_iconst o (v := 0) dX11_factsThatMatter_2 rfl ?_
  refine j_istore o [(4, .int 0), (3, .int 0), (0, .ref (P.1 1)), (1, .ref (P.1 a1)), (2, .int a2)] dX11_factsThatMatter_3 (by decide) rfl ?_
  replace h := h (fun (x1 : Int32) (x2 : Int32) => J X P M N 0 0 E 5 5 [(0, .ref (P.1 1)), (1, .ref (P.1 a1)), (2, .int a2), (3, .int x1), (4, .int x2)] []) (by
    intro x1 x2 h
    refine j_iload o dX11_factsThatMatter_5 rfl ?_
    refine j_aload_n o dX11_factsThatMatter_7 rfl ?_
    refine j_getf o (g := 1) (slot := 0) (ci := 11) (v := .ref (P.1 2)) rfl jin_X11 (by decide) rfl jf_X11_23 (fun _ => rfl) rfl dX11_factsThatMatter_8 ?_
    refine j_getf o (g := 2) (slot := 0) (ci := 3) (v := .int (M 2 0)) rfl jin_X3 (by decide) rfl jf_X11_224 (fun _ => rfl) rfl dX11_factsThatMatter_11 ?_
    refine j_icmp_ge o (tgt := 50) dX11_factsThatMatter_14 (by decide) (fun c3 => ?_) (fun c3 => ?_)
    · replace h := h.1 c3
      refine j_iload_n o dX11_factsThatMatter_50 rfl ?_
      rw [hE]
      exact j_iret o dX11_factsThatMatter_51 ⟨_, rfl, rfl, rfl, rfl, h⟩
    · replace h := h.2 c3
      refine j_aload_n o dX11_factsThatMatter_17 rfl ?_
      obtain ⟨hb4, h⟩ := h
      refine j_getf o (g := a1) (slot := 3) (ci := 4) (v := .ref (P.1 (a1 + 3))) rfl jin_X4 (by decide) rfl jf_X11_164 (fun tA => LC_lw hb4 tA _ _) rfl dX11_factsThatMatter_18 ?_
      refine j_iload_n o dX11_factsThatMatter_21 rfl ?_
      obtain ⟨hb5, h⟩ := h
      obtain ⟨nnhb5, hchb5, hihb5⟩ := hb5
      refine j_iald o (g := a1 + 3) (fun tA => LC_ia hchb5 tA _ _) hihb5 dX11_factsThatMatter_22 ?_
      refine j_aload_n o dX11_factsThatMatter_23 rfl ?_
      obtain ⟨hb6, h⟩ := h
      refine j_getf o (g := a1) (slot := 3) (ci := 4) (v := .ref (P.1 (a1 + 3))) rfl jin_X4 (by decide) rfl jf_X11_164 (fun tA => LC_lw hb6 tA _ _) rfl dX11_factsThatMatter_24 ?_
      refine j_iload_n o dX11_factsThatMatter_27 rfl ?_
      refine j_iconst o (v := 1) dX11_factsThatMatter_28 rfl ?_
      refine j_iload o dX11_factsThatMatter_29 rfl ?_
      refine j_ishl o dX11_factsThatMatter_31 ?_
      refine j_ixor o dX11_factsThatMatter_32 ?_
      obtain ⟨hb7, h⟩ := h
      obtain ⟨nnhb7, hchb7, hihb7⟩ := hb7
      refine j_iald o (g := a1 + 3) (fun tA => LC_ia hchb7 tA _ _) hihb7 dX11_factsThatMatter_33 ?_
      replace h := h (fun (x8 : Int32) => J X P M N 0 0 E 5 44 [(0, .ref (P.1 1)), (1, .ref (P.1 a1)), (2, .int a2), (3, .int x8), (4, .int x2)] []) (by
        intro x8 h
        refine j_iinc o (v := x2 + 1) [(4, .int (x2 + 1)), (0, .ref (P.1 1)), (1, .ref (P.1 a1)), (2, .int a2), (3, .int x8)] dX11_factsThatMatter_44 rfl rfl (by decide) rfl ?_
        refine j_goto o (tgt := 5) dX11_factsThatMatter_47 (by decide) ?_
        exact j_pick [1, 2, 3, 4, 0] rfl h)
      refine j_icmp_eq o (tgt := 44) dX11_factsThatMatter_34 (by decide) (fun c9 => ?_) (fun c9 => ?_)
      · replace h := h.1 c9
        exact j_pick [0, 1, 2, 3, 4] rfl h
      · replace h := h.2 c9
        refine j_iload_n o dX11_factsThatMatter_37 rfl ?_
        refine j_iconst o (v := 1) dX11_factsThatMatter_38 rfl ?_
        refine j_iload o dX11_factsThatMatter_39 rfl ?_
        refine j_ishl o dX11_factsThatMatter_41 ?_
        refine j_ior o dX11_factsThatMatter_42 ?_
        refine j_istore_n o [(3, .int (x1 ||| ((1 : Int32) <<< (x2 &&& 31)))), (0, .ref (P.1 1)), (1, .ref (P.1 a1)), (2, .int a2), (4, .int x2)] dX11_factsThatMatter_43 (by decide) rfl ?_
        exact j_pick [1, 2, 3, 0, 4] rfl h)
  exact j_pick [2, 3, 4, 1, 0] rfl h

abbrev rm_X11_matters : Room := { frames := 1, cells := 0, slots := 0, locals := 24 }
def w_X11_matters (P : jP) (a1 : Int32) (a2 : Int32) (M : jM) (Q : Int32 → Prop) : Prop :=
  w_X11_lawAt P a1 M (fun r1 =>
  (r1 = 0 → (
   Q (-1)
  )) ∧ (r1 ≠ 0 → (
   (a2 < 0 → (
    Q (-1)
   )) ∧ (¬ a2 < 0 → (
    (a2 ≤ 1 → (
     ∀ R36 : Int32 → Int32 → Int32 → Prop, (∀ (x7 : Int32) (x8 : Int32) (x9 : Int32), (
      ((M 2 2) ≤ x9 → (
       (¬ a2 = 0 → (
        Q x8
       )) ∧ (a2 = 0 → (
        Q x7
       ))
      )) ∧ (¬ (M 2 2) ≤ x9 → (
       w_X11_factsThatMatter P r1 x9 M (fun r12 =>
       R36 (x7 ||| r12) (x8 &&& r12) (x9 + 1))
      ))
     ) → R36 x7 x8 x9) →
     R36 0 (M 2 1) 0
    )) ∧ (¬ a2 ≤ 1 → (
     Q (-1)
    ))
   ))
  )))
set_option maxRecDepth 20000 in
theorem c_X11_matters (l : Launch) (P : jP) (a1 : Int32) (a2 : Int32) (M : jM) (N : jN) (Q : Int32 → Prop) (h : w_X11_matters P a1 a2 M Q) : jC l yX11_matters cX11_matters 8 (some .int) rm_X11_matters LC [.ref (P.1 1), .int a1, .int a2] P M N (jqi P (fun r M' N' => M = M' ∧ N = N' ∧ Q r )) := by
  refine jC_of (by decide +kernel) [(0, .ref (P.1 1)), (1, .int a1), (2, .int a2)] (Nat.le_of_ble_eq_true rfl) rfl (fun X o => ?_)
  obtain ⟨E, hE⟩ : ∃ E, E = jE X rm_X11_matters (jqi P (fun r M' N' => M = M' ∧ N = N' ∧ Q r )) := ⟨_, rfl⟩
  rw [← hE]
  unfold w_X11_matters at h
  refine j_aload_n o dX11_matters_0 rfl ?_
  refine j_iload_n o dX11_matters_1 rfl ?_
  refine j_callVr (g := 1) (ci := 11) o (c_X11_lawAt l P a1 M N _ h) dX11_matters_2 jc_X11_191 jn_X11_lawAt rfl rfl rfl (fun _ => rfl) rfl rfl (fun r1 Mz2 Nz3 h => ?_)
  obtain ⟨rfl, rfl, h⟩ := h
  refine j_qstore_n o [(3, jrf P r1), (0, .ref (P.1 1)), (1, .int a1), (2, .int a2)] dX11_matters_5 (by decide) rfl ?_
  refine j_qload_n o (g := r1) rfl dX11_matters_6 ?_
  refine j_null2 o (tgt := 19) dX11_matters_7 (by decide) (fun c4 => ?_) (fun c4 => ?_)
  · replace h := h.1 c4
    refine j_iconst o (v := (-1)) dX11_matters_19 rfl ?_
    rw [hE]
    exact j_iret o dX11_matters_20 ⟨_, rfl, rfl, rfl, rfl, h⟩
  · replace h := h.2 c4
    try rw [jrf_n P c4]
    refine j_iload_n o dX11_matters_10 rfl ?_
    refine j_if_lt o (tgt := 19) dX11_matters_11 (by decide) (fun c5 => ?_) (fun c5 => ?_)
    · replace h := h.1 c5
      refine j_iconst o (v := (-1)) dX11_matters_19 rfl ?_
      rw [hE]
      exact j_iret o dX11_matters_20 ⟨_, rfl, rfl, rfl, rfl, h⟩
    · replace h := h.2 c5
      refine j_iload_n o dX11_matters_14 rfl ?_
      refine j_iconst o (v := 1) dX11_matters_15 rfl ?_
      refine j_icmp_le o (tgt := 21) dX11_matters_16 (by decide) (fun c6 => ?_) (fun c6 => ?_)
      · replace h := h.1 c6
        refine j_iconst o (v := 0) dX11_matters_21 rfl ?_
        refine j_istore o [(4, .int 0), (3, .ref (P.1 r1)), (0, .ref (P.1 1)), (1, .int a1), (2, .int a2)] dX11_matters_22 (by decide) rfl ?_
        refine j_aload_n o dX11_matters_24 rfl ?_
        refine j_getf o (g := 1) (slot := 0) (ci := 11) (v := .ref (P.1 2)) rfl jin_X11 (by decide) rfl jf_X11_23 (fun _ => rfl) rfl dX11_matters_25 ?_
        refine j_getf o (g := 2) (slot := 1) (ci := 3) (v := .int (M 2 1)) rfl jin_X3 (by decide) rfl jf_X11_217 (fun _ => rfl) rfl dX11_matters_28 ?_
        refine j_istore o [(5, .int (M 2 1)), (4, .int 0), (3, .ref (P.1 r1)), (0, .ref (P.1 1)), (1, .int a1), (2, .int a2)] dX11_matters_31 (by decide) rfl ?_
        refine j_iconst o (v := 0) dX11_matters_33 rfl ?_
        refine j_istore o [(6, .int 0), (5, .int (M 2 1)), (4, .int 0), (3, .ref (P.1 r1)), (0, .ref (P.1 1)), (1, .int a1), (2, .int a2)] dX11_matters_34 (by decide) rfl ?_
        replace h := h (fun (x7 : Int32) (x8 : Int32) (x9 : Int32) => J X P M N 0 0 E 8 36 [(0, .ref (P.1 1)), (2, .int a2), (3, .ref (P.1 r1)), (4, .int x7), (5, .int x8), (6, .int x9)] []) (by
          intro x7 x8 x9 h
          refine j_iload o dX11_matters_36 rfl ?_
          refine j_aload_n o dX11_matters_38 rfl ?_
          refine j_getf o (g := 1) (slot := 0) (ci := 11) (v := .ref (P.1 2)) rfl jin_X11 (by decide) rfl jf_X11_23 (fun _ => rfl) rfl dX11_matters_39 ?_
          refine j_getf o (g := 2) (slot := 2) (ci := 3) (v := .int (M 2 2)) rfl jin_X3 (by decide) rfl jf_X11_77 (fun _ => rfl) rfl dX11_matters_42 ?_
          refine j_icmp_ge o (tgt := 77) dX11_matters_45 (by decide) (fun c10 => ?_) (fun c10 => ?_)
          · replace h := h.1 c10
            refine j_iload_n o dX11_matters_77 rfl ?_
            refine j_if_ne o (tgt := 86) dX11_matters_78 (by decide) (fun c11 => ?_) (fun c11 => ?_)
            · replace h := h.1 c11
              refine j_iload o dX11_matters_86 rfl ?_
              rw [hE]
              exact j_iret o dX11_matters_88 ⟨_, rfl, rfl, rfl, rfl, h⟩
            · replace h := h.2 c11
              refine j_iload o dX11_matters_81 rfl ?_
              refine j_goto o (tgt := 88) dX11_matters_83 (by decide) ?_
              rw [hE]
              exact j_iret o dX11_matters_88 ⟨_, rfl, rfl, rfl, rfl, h⟩
          · replace h := h.2 c10
            refine j_aload_n o dX11_matters_48 rfl ?_
            refine j_aload_n o dX11_matters_49 rfl ?_
            refine j_iload o dX11_matters_50 rfl ?_
            refine j_callVi (g := 1) (ci := 11) o (c_X11_factsThatMatter l P r1 x9 M N _ h) dX11_matters_52 jc_X11_220 jn_X11_factsThatMatter rfl rfl rfl (fun _ => rfl) rfl rfl (fun r12 Mz13 Nz14 h => ?_)
            obtain ⟨rfl, rfl, h⟩ := h
            refine j_istore o [(7, .int r12), (0, .ref (P.1 1)), (2, .int a2), (3, .ref (P.1 r1)), (4, .int x7), (5, .int x8), (6, .int x9)] dX11_matters_55 (by decide) rfl ?_
            refine j_iload o dX11_matters_57 rfl ?_
            refine j_iload o dX11_matters_59 rfl ?_
            refine j_ior o dX11_matters_61 ?_
            refine j_istore o [(4, .int (x7 ||| r12)), (7, .int r12), (0, .ref (P.1 1)), (2, .int a2), (3, .ref (P.1 r1)), (5, .int x8), (6, .int x9)] dX11_matters_62 (by decide) rfl ?_
            refine j_iload o dX11_matters_64 rfl ?_
            refine j_iload o dX11_matters_66 rfl ?_
            refine j_iand o dX11_matters_68 ?_
            refine j_istore o [(5, .int (x8 &&& r12)), (4, .int (x7 ||| r12)), (7, .int r12), (0, .ref (P.1 1)), (2, .int a2), (3, .ref (P.1 r1)), (6, .int x9)] dX11_matters_69 (by decide) rfl ?_
            refine j_iinc o (v := x9 + 1) [(6, .int (x9 + 1)), (5, .int (x8 &&& r12)), (4, .int (x7 ||| r12)), (7, .int r12), (0, .ref (P.1 1)), (2, .int a2), (3, .ref (P.1 r1))] dX11_matters_71 rfl rfl (by decide) rfl ?_
            refine j_goto o (tgt := 36) dX11_matters_74 (by decide) ?_
            exact j_pick [4, 5, 6, 2, 1, 0] rfl h)
        exact j_pick [4, 6, 3, 2, 1, 0] rfl h
      · replace h := h.2 c6
        refine j_iconst o (v := (-1)) dX11_matters_19 rfl ?_
        rw [hE]
        exact j_iret o dX11_matters_20 ⟨_, rfl, rfl, rfl, rfl, h⟩

abbrev rm_X11_proof : Room := { frames := 2, cells := 0, slots := 0, locals := 43 }
def w_X11_proof (P : jP) (a1 : Int32) (a2 : Int32) (M : jM) (Q : Int32 → Prop) : Prop :=
  w_X11_lawAt P a1 M (fun r1 =>
  (r1 = 0 → (
   Q (-1)
  )) ∧ (r1 ≠ 0 → (
   w_X3_isCase P a2 M (fun r5 =>
   (¬ r5 = 0 → (
    ∀ R29 : Int32 → Int32 → Prop, (∀ (x9 : Int32) (x10 : Int32), (
     ((M 2 1) < x10 → (
      Q x9
     )) ∧ (¬ (M 2 1) < x10 → (
      w_X11_isAhead P x10 x9 (fun r12 =>
      ∀ R75 : Int32 → Prop, (∀ (x15 : Int32), (
       R29 x15 (x10 + 1)
      ) → R75 x15) →
      (r12 = 0 → (
       R75 x9
      )) ∧ (¬ r12 = 0 → (
       w_X3_place P x10 (a2 &&& x10) M (fun r17 =>
       cLw P r1 = true ∧
       w_X4_isSureAt P r1 r17 M (fun r20 =>
       (r20 = 0 → (
        R75 x9
       )) ∧ (¬ r20 = 0 → (
        R75 x10
       ))))
      )))
     ))
    ) → R29 x9 x10) →
    R29 (-1) 0
   )) ∧ (r5 = 0 → (
    Q (-1)
   )))
  )))
set_option maxRecDepth 20000 in
theorem c_X11_proof (l : Launch) (P : jP) (a1 : Int32) (a2 : Int32) (M : jM) (N : jN) (Q : Int32 → Prop) (h : w_X11_proof P a1 a2 M Q) : jC l yX11_proof cX11_proof 6 (some .int) rm_X11_proof LC [.ref (P.1 1), .int a1, .int a2] P M N (jqi P (fun r M' N' => M = M' ∧ N = N' ∧ Q r )) := by
  refine jC_of (by decide +kernel) [(0, .ref (P.1 1)), (1, .int a1), (2, .int a2)] (Nat.le_of_ble_eq_true rfl) rfl (fun X o => ?_)
  obtain ⟨E, hE⟩ : ∃ E, E = jE X rm_X11_proof (jqi P (fun r M' N' => M = M' ∧ N = N' ∧ Q r )) := ⟨_, rfl⟩
  rw [← hE]
  unfold w_X11_proof at h
  refine j_aload_n o dX11_proof_0 rfl ?_
  refine j_iload_n o dX11_proof_1 rfl ?_
  refine j_callVr (g := 1) (ci := 11) o (c_X11_lawAt l P a1 M N _ h) dX11_proof_2 jc_X11_191 jn_X11_lawAt rfl rfl rfl (fun _ => rfl) rfl rfl (fun r1 Mz2 Nz3 h => ?_)
  obtain ⟨rfl, rfl, h⟩ := h
  refine j_qstore_n o [(3, jrf P r1), (0, .ref (P.1 1)), (1, .int a1), (2, .int a2)] dX11_proof_5 (by decide) rfl ?_
  refine j_qload_n o (g := r1) rfl dX11_proof_6 ?_
  refine j_null2 o (tgt := 21) dX11_proof_7 (by decide) (fun c4 => ?_) (fun c4 => ?_)
  · replace h := h.1 c4
    refine j_iconst o (v := (-1)) dX11_proof_21 rfl ?_
    rw [hE]
    exact j_iret o dX11_proof_22 ⟨_, rfl, rfl, rfl, rfl, h⟩
  · replace h := h.2 c4
    try rw [jrf_n P c4]
    refine j_aload_n o dX11_proof_10 rfl ?_
    refine j_getf o (g := 1) (slot := 0) (ci := 11) (v := .ref (P.1 2)) rfl jin_X11 (by decide) rfl jf_X11_23 (fun _ => rfl) rfl dX11_proof_11 ?_
    refine j_iload_n o dX11_proof_14 rfl ?_
    refine j_callVi (g := 2) (ci := 3) o (c_X3_isCase l P a2 M N _ h) dX11_proof_15 jc_X11_195 jn_X3_isCase rfl rfl rfl (fun _ => rfl) rfl rfl (fun r5 Mz6 Nz7 h => ?_)
    obtain ⟨rfl, rfl, h⟩ := h
    refine j_if_ne o (tgt := 23) dX11_proof_18 (by decide) (fun c8 => ?_) (fun c8 => ?_)
    · replace h := h.1 c8
      refine j_iconst o (v := (-1)) dX11_proof_23 rfl ?_
      refine j_istore o [(4, .int (-1)), (3, .ref (P.1 r1)), (0, .ref (P.1 1)), (1, .int a1), (2, .int a2)] dX11_proof_24 (by decide) rfl ?_
      refine j_iconst o (v := 0) dX11_proof_26 rfl ?_
      refine j_istore o [(5, .int 0), (4, .int (-1)), (3, .ref (P.1 r1)), (0, .ref (P.1 1)), (1, .int a1), (2, .int a2)] dX11_proof_27 (by decide) rfl ?_
      replace h := h (fun (x9 : Int32) (x10 : Int32) => J X P M N 0 0 E 6 29 [(0, .ref (P.1 1)), (2, .int a2), (3, .ref (P.1 r1)), (4, .int x9), (5, .int x10)] []) (by
        intro x9 x10 h
        refine j_iload o dX11_proof_29 rfl ?_
        refine j_aload_n o dX11_proof_31 rfl ?_
        refine j_getf o (g := 1) (slot := 0) (ci := 11) (v := .ref (P.1 2)) rfl jin_X11 (by decide) rfl jf_X11_23 (fun _ => rfl) rfl dX11_proof_32 ?_
        refine j_getf o (g := 2) (slot := 1) (ci := 3) (v := .int (M 2 1)) rfl jin_X3 (by decide) rfl jf_X11_217 (fun _ => rfl) rfl dX11_proof_35 ?_
        refine j_icmp_gt o (tgt := 81) dX11_proof_38 (by decide) (fun c11 => ?_) (fun c11 => ?_)
        · replace h := h.1 c11
          refine j_iload o dX11_proof_81 rfl ?_
          rw [hE]
          exact j_iret o dX11_proof_83 ⟨_, rfl, rfl, rfl, rfl, h⟩
        · replace h := h.2 c11
          refine j_iload o dX11_proof_41 rfl ?_
          refine j_iload o dX11_proof_43 rfl ?_
          refine j_callSi o (c_X11_isAhead l P x10 x9 M N _ h) dX11_proof_45 jc_X11_227 jn_X11_isAhead rfl rfl rfl rfl (fun r12 Mz13 Nz14 h => ?_)
          obtain ⟨rfl, rfl, h⟩ := h
          replace h := h (fun (x15 : Int32) => J X P M N 0 0 E 6 75 [(0, .ref (P.1 1)), (2, .int a2), (3, .ref (P.1 r1)), (4, .int x15), (5, .int x10)] []) (by
            intro x15 h
            refine j_iinc o (v := x10 + 1) [(5, .int (x10 + 1)), (0, .ref (P.1 1)), (2, .int a2), (3, .ref (P.1 r1)), (4, .int x15)] dX11_proof_75 rfl rfl (by decide) rfl ?_
            refine j_goto o (tgt := 29) dX11_proof_78 (by decide) ?_
            exact j_pick [1, 2, 3, 4, 0] rfl h)
          refine j_if_eq o (tgt := 75) dX11_proof_48 (by decide) (fun c16 => ?_) (fun c16 => ?_)
          · replace h := h.1 c16
            exact j_pick [0, 1, 2, 3, 4] rfl h
          · replace h := h.2 c16
            refine j_aload_n o dX11_proof_51 rfl ?_
            refine j_aload_n o dX11_proof_52 rfl ?_
            refine j_getf o (g := 1) (slot := 0) (ci := 11) (v := .ref (P.1 2)) rfl jin_X11 (by decide) rfl jf_X11_23 (fun _ => rfl) rfl dX11_proof_53 ?_
            refine j_iload o dX11_proof_56 rfl ?_
            refine j_iload_n o dX11_proof_58 rfl ?_
            refine j_iload o dX11_proof_59 rfl ?_
            refine j_iand o dX11_proof_61 ?_
            refine j_callVi (g := 2) (ci := 3) o (c_X3_place l P x10 (a2 &&& x10) M N _ h) dX11_proof_62 jc_X11_211 jn_X3_place rfl rfl rfl (fun _ => rfl) rfl rfl (fun r17 Mz18 Nz19 h => ?_)
            obtain ⟨rfl, rfl, h⟩ := h
            obtain ⟨hb23, h⟩ := h
            refine j_callVi (g := r1) (ci := 4) o (c_X4_isSureAt l P r1 r17 M N _ h) dX11_proof_65 jc_X11_230 jn_X4_isSureAt rfl rfl rfl (fun tA => LC_lw hb23 tA _ _) rfl rfl (fun r20 Mz21 Nz22 h => ?_)
            obtain ⟨rfl, rfl, h⟩ := h
            refine j_if_eq o (tgt := 75) dX11_proof_68 (by decide) (fun c24 => ?_) (fun c24 => ?_)
            · replace h := h.1 c24
              exact j_pick [0, 1, 2, 3, 4] rfl h
            · replace h := h.2 c24
              refine j_iload o dX11_proof_71 rfl ?_
              refine j_istore o [(4, .int x10), (0, .ref (P.1 1)), (2, .int a2), (3, .ref (P.1 r1)), (5, .int x10)] dX11_proof_73 (by decide) rfl ?_
              exact j_pick [1, 2, 3, 0, 4] rfl h)
      exact j_pick [3, 5, 2, 1, 0] rfl h
    · replace h := h.2 c8
      refine j_iconst o (v := (-1)) dX11_proof_21 rfl ?_
      rw [hE]
      exact j_iret o dX11_proof_22 ⟨_, rfl, rfl, rfl, rfl, h⟩

abbrev rm_X11_parts : Room := { frames := 2, cells := 0, slots := 0, locals := 47 }
def w_X11_parts (P : jP) (a1 : Int32) (a2 : Int32) (a3 : Int32) (M : jM) (Q : Int32 → jM → Prop) : Prop :=
  w_X11_lawAt P a1 M (fun r1 =>
  w_X11_lawAt P a2 M (fun r4 =>
  (r1 = 0 → (
   Q (-1) M
  )) ∧ (r1 ≠ 0 → (
   (r4 ≠ 0 → (
    cLw P r1 = true ∧
    cLw P r4 = true ∧
    w_X11_hitsOfUnlike P (r1 + 3) (r4 + 3) a3 M (fun r11 M12 =>
    Q r11 M12)
   )) ∧ (r4 = 0 → (
    Q (-1) M
   ))
  ))))
set_option maxRecDepth 20000 in
theorem c_X11_parts (l : Launch) (P : jP) (a1 : Int32) (a2 : Int32) (a3 : Int32) (M : jM) (N : jN) (Q : Int32 → jM → Prop) (h : w_X11_parts P a1 a2 a3 M Q) : jC l yX11_parts cX11_parts 6 (some .int) rm_X11_parts LC [.ref (P.1 1), .int a1, .int a2, .int a3] P M N (jqi P (fun r M' N' => N = N' ∧ Q r M' )) := by
  refine jC_of (by decide +kernel) [(0, .ref (P.1 1)), (1, .int a1), (2, .int a2), (3, .int a3)] (Nat.le_of_ble_eq_true rfl) rfl (fun X o => ?_)
  obtain ⟨E, hE⟩ : ∃ E, E = jE X rm_X11_parts (jqi P (fun r M' N' => N = N' ∧ Q r M' )) := ⟨_, rfl⟩
  rw [← hE]
  unfold w_X11_parts at h
  refine j_aload_n o dX11_parts_0 rfl ?_
  refine j_iload_n o dX11_parts_1 rfl ?_
  refine j_callVr (g := 1) (ci := 11) o (c_X11_lawAt l P a1 M N _ h) dX11_parts_2 jc_X11_191 jn_X11_lawAt rfl rfl rfl (fun _ => rfl) rfl rfl (fun r1 Mz2 Nz3 h => ?_)
  obtain ⟨rfl, rfl, h⟩ := h
  refine j_qstore o [(4, jrf P r1), (0, .ref (P.1 1)), (1, .int a1), (2, .int a2), (3, .int a3)] dX11_parts_5 (by decide) rfl ?_
  refine j_aload_n o dX11_parts_7 rfl ?_
  refine j_iload_n o dX11_parts_8 rfl ?_
  refine j_callVr (g := 1) (ci := 11) o (c_X11_lawAt l P a2 M N _ h) dX11_parts_9 jc_X11_191 jn_X11_lawAt rfl rfl rfl (fun _ => rfl) rfl rfl (fun r4 Mz5 Nz6 h => ?_)
  obtain ⟨rfl, rfl, h⟩ := h
  refine j_qstore o [(5, jrf P r4), (4, jrf P r1), (0, .ref (P.1 1)), (1, .int a1), (2, .int a2), (3, .int a3)] dX11_parts_12 (by decide) (by simp [jst1, jst2, jrf_cat]) ?_
  refine j_qload o (g := r1) rfl dX11_parts_14 ?_
  refine j_null2 o (tgt := 24) dX11_parts_16 (by decide) (fun c7 => ?_) (fun c7 => ?_)
  · replace h := h.1 c7
    refine j_iconst o (v := (-1)) dX11_parts_24 rfl ?_
    refine j_goto o (tgt := 43) dX11_parts_25 (by decide) ?_
    rw [hE]
    exact j_iret o dX11_parts_43 ⟨_, rfl, rfl, rfl, h⟩
  · replace h := h.2 c7
    try rw [jrf_n P c7]
    refine j_qload o (g := r4) rfl dX11_parts_19 ?_
    refine j_nonnull2 o (tgt := 28) dX11_parts_21 (by decide) (fun c8 => ?_) (fun c8 => ?_)
    · replace h := h.1 c8
      try rw [jrf_n P c8]
      refine j_aload_n o dX11_parts_28 rfl ?_
      refine j_aload o dX11_parts_29 rfl ?_
      obtain ⟨hb9, h⟩ := h
      refine j_getf o (g := r1) (slot := 3) (ci := 4) (v := .ref (P.1 (r1 + 3))) rfl jin_X4 (by decide) rfl jf_X11_164 (fun tA => LC_lw hb9 tA _ _) rfl dX11_parts_31 ?_
      refine j_aload o dX11_parts_34 rfl ?_
      obtain ⟨hb10, h⟩ := h
      refine j_getf o (g := r4) (slot := 3) (ci := 4) (v := .ref (P.1 (r4 + 3))) rfl jin_X4 (by decide) rfl jf_X11_164 (fun tA => LC_lw hb10 tA _ _) rfl dX11_parts_36 ?_
      refine j_iload_n o dX11_parts_39 rfl ?_
      refine j_callVi (g := 1) (ci := 11) o (c_X11_hitsOfUnlike l P (r1 + 3) (r4 + 3) a3 M N _ h) dX11_parts_40 jc_X11_233 jn_X11_hitsOfUnlike rfl rfl rfl (fun _ => rfl) rfl rfl (fun r11 M12 Nz13 h => ?_)
      obtain ⟨rfl, h⟩ := h
      rw [hE]
      exact j_iret o dX11_parts_43 ⟨_, rfl, rfl, rfl, h⟩
    · replace h := h.2 c8
      refine j_iconst o (v := (-1)) dX11_parts_24 rfl ?_
      refine j_goto o (tgt := 43) dX11_parts_25 (by decide) ?_
      rw [hE]
      exact j_iret o dX11_parts_43 ⟨_, rfl, rfl, rfl, h⟩

abbrev rm_X11_apart : Room := { frames := 3, cells := 0, slots := 0, locals := 67 }
def w_X11_apart (P : jP) (a1 : Int32) (a2 : Int32) (a3 : Int32) (M : jM) (Q : Int32 → jM → Prop) : Prop :=
  w_X11_formAt P a1 M (fun r1 =>
  w_X11_lawAt P a2 M (fun r4 =>
  (r1 = 0 → (
   Q (-1) M
  )) ∧ (r1 ≠ 0 → (
   (r4 ≠ 0 → (
    ∀ R32 : Int32 → Int32 → jM → Prop, (∀ (x9 : Int32) (x10 : Int32) (M11 : jM), (
     ((M11 2 2) ≤ x10 → (
      w_X11_hit P x9 a3 M11 (fun r13 =>
      Q r13 M11)
     )) ∧ (¬ (M11 2 2) ≤ x10 → (
      cFm P r1 = true ∧
      w_X2_outcomeOn P r1 x10 M11 (fun r16 =>
      cLw P r4 = true ∧
      jin P (r4 + 3) x10 ∧
      ∀ R74 : Int32 → jM → Prop, (∀ (x22 : Int32) (M23 : jM), (
       R32 x22 (x10 + 1) M23
      ) → R74 x22 M23) →
      (r16 = (M11 (r4 + 3) x10.toNatClampNeg) → (
       R74 x9 M11
      )) ∧ (¬ r16 = (M11 (r4 + 3) x10.toNatClampNeg) → (
       vp_in x9 (P.2.2 1) ∧
       R74 (x9 + 1) (upM M11 13 x9.toNatClampNeg x10)
      )))
     ))
    ) → R32 x9 x10 M11) →
    R32 0 0 M
   )) ∧ (r4 = 0 → (
    Q (-1) M
   ))
  ))))
set_option maxRecDepth 20000 in
theorem c_X11_apart (l : Launch) (P : jP) (a1 : Int32) (a2 : Int32) (a3 : Int32) (M : jM) (N : jN) (Q : Int32 → jM → Prop) (h : w_X11_apart P a1 a2 a3 M Q) : jC l yX11_apart cX11_apart 8 (some .int) rm_X11_apart LC [.ref (P.1 1), .int a1, .int a2, .int a3] P M N (jqi P (fun r M' N' => N = N' ∧ Q r M' )) := by
  refine jC_of (by decide +kernel) [(0, .ref (P.1 1)), (1, .int a1), (2, .int a2), (3, .int a3)] (Nat.le_of_ble_eq_true rfl) rfl (fun X o => ?_)
  obtain ⟨E, hE⟩ : ∃ E, E = jE X rm_X11_apart (jqi P (fun r M' N' => N = N' ∧ Q r M' )) := ⟨_, rfl⟩
  rw [← hE]
  unfold w_X11_apart at h
  refine j_aload_n o dX11_apart_0 rfl ?_
  refine j_iload_n o dX11_apart_1 rfl ?_
  refine j_callVr (g := 1) (ci := 11) o (c_X11_formAt l P a1 M N _ h) dX11_apart_2 jc_X11_237 jn_X11_formAt rfl rfl rfl (fun _ => rfl) rfl rfl (fun r1 Mz2 Nz3 h => ?_)
  obtain ⟨rfl, rfl, h⟩ := h
  refine j_qstore o [(4, jrf P r1), (0, .ref (P.1 1)), (1, .int a1), (2, .int a2), (3, .int a3)] dX11_apart_5 (by decide) rfl ?_
  refine j_aload_n o dX11_apart_7 rfl ?_
  refine j_iload_n o dX11_apart_8 rfl ?_
  refine j_callVr (g := 1) (ci := 11) o (c_X11_lawAt l P a2 M N _ h) dX11_apart_9 jc_X11_191 jn_X11_lawAt rfl rfl rfl (fun _ => rfl) rfl rfl (fun r4 Mz5 Nz6 h => ?_)
  obtain ⟨rfl, rfl, h⟩ := h
  refine j_qstore o [(5, jrf P r4), (4, jrf P r1), (0, .ref (P.1 1)), (1, .int a1), (2, .int a2), (3, .int a3)] dX11_apart_12 (by decide) (by simp [jst1, jst2, jrf_cat]) ?_
  refine j_qload o (g := r1) rfl dX11_apart_14 ?_
  refine j_null2 o (tgt := 24) dX11_apart_16 (by decide) (fun c7 => ?_) (fun c7 => ?_)
  · replace h := h.1 c7
    refine j_iconst o (v := (-1)) dX11_apart_24 rfl ?_
    rw [hE]
    exact j_iret o dX11_apart_25 ⟨_, rfl, rfl, rfl, h⟩
  · replace h := h.2 c7
    try rw [jrf_n P c7]
    refine j_qload o (g := r4) rfl dX11_apart_19 ?_
    refine j_nonnull2 o (tgt := 26) dX11_apart_21 (by decide) (fun c8 => ?_) (fun c8 => ?_)
    · replace h := h.1 c8
      try rw [jrf_n P c8]
      refine j_iconst o (v := 0) dX11_apart_26 rfl ?_
      refine j_istore o [(6, .int 0), (5, .ref (P.1 r4)), (4, .ref (P.1 r1)), (0, .ref (P.1 1)), (1, .int a1), (2, .int a2), (3, .int a3)] dX11_apart_27 (by decide) rfl ?_
      refine j_iconst o (v := 0) dX11_apart_29 rfl ?_
      refine j_istore o [(7, .int 0), (6, .int 0), (5, .ref (P.1 r4)), (4, .ref (P.1 r1)), (0, .ref (P.1 1)), (1, .int a1), (2, .int a2), (3, .int a3)] dX11_apart_30 (by decide) rfl ?_
      replace h := h (fun (x9 : Int32) (x10 : Int32) (M11 : jM) => J X P M11 N 0 0 E 8 32 [(0, .ref (P.1 1)), (3, .int a3), (4, .ref (P.1 r1)), (5, .ref (P.1 r4)), (6, .int x9), (7, .int x10)] []) (by
        intro x9 x10 M11 h
        refine j_iload o dX11_apart_32 rfl ?_
        refine j_aload_n o dX11_apart_34 rfl ?_
        refine j_getf o (g := 1) (slot := 0) (ci := 11) (v := .ref (P.1 2)) rfl jin_X11 (by decide) rfl jf_X11_23 (fun _ => rfl) rfl dX11_apart_35 ?_
        refine j_getf o (g := 2) (slot := 2) (ci := 3) (v := .int (M11 2 2)) rfl jin_X3 (by decide) rfl jf_X11_77 (fun _ => rfl) rfl dX11_apart_38 ?_
        refine j_icmp_ge o (tgt := 80) dX11_apart_41 (by decide) (fun c12 => ?_) (fun c12 => ?_)
        · replace h := h.1 c12
          refine j_aload_n o dX11_apart_80 rfl ?_
          refine j_iload o dX11_apart_81 rfl ?_
          refine j_iload_n o dX11_apart_83 rfl ?_
          refine j_callVi (g := 1) (ci := 11) o (c_X11_hit l P x9 a3 M11 N _ h) dX11_apart_84 jc_X11_204 jn_X11_hit rfl rfl rfl (fun _ => rfl) rfl rfl (fun r13 Mz14 Nz15 h => ?_)
          obtain ⟨rfl, rfl, h⟩ := h
          rw [hE]
          exact j_iret o dX11_apart_87 ⟨_, rfl, rfl, rfl, h⟩
        · replace h := h.2 c12
          refine j_aload o dX11_apart_44 rfl ?_
          refine j_iload o dX11_apart_46 rfl ?_
          obtain ⟨hb19, h⟩ := h
          refine j_callVi (g := r1) (ci := 2) o (c_X2_outcomeOn l P r1 x10 M11 N _ h) dX11_apart_48 jc_X11_241 jn_X2_outcomeOn rfl rfl rfl (fun tA => LC_fm hb19 tA _ _) rfl rfl (fun r16 Mz17 Nz18 h => ?_)
          obtain ⟨rfl, rfl, h⟩ := h
          refine j_aload o dX11_apart_51 rfl ?_
          obtain ⟨hb20, h⟩ := h
          refine j_getf o (g := r4) (slot := 3) (ci := 4) (v := .ref (P.1 (r4 + 3))) rfl jin_X4 (by decide) rfl jf_X11_164 (fun tA => LC_lw hb20 tA _ _) rfl dX11_apart_53 ?_
          refine j_iload o dX11_apart_56 rfl ?_
          obtain ⟨hb21, h⟩ := h
          obtain ⟨nnhb21, hchb21, hihb21⟩ := hb21
          refine j_iald o (g := r4 + 3) (fun tA => LC_ia hchb21 tA _ _) hihb21 dX11_apart_58 ?_
          replace h := h (fun (x22 : Int32) (M23 : jM) => J X P M23 N 0 0 E 8 74 [(0, .ref (P.1 1)), (3, .int a3), (4, .ref (P.1 r1)), (5, .ref (P.1 r4)), (6, .int x22), (7, .int x10)] []) (by
            intro x22 M23 h
            refine j_iinc o (v := x10 + 1) [(7, .int (x10 + 1)), (0, .ref (P.1 1)), (3, .int a3), (4, .ref (P.1 r1)), (5, .ref (P.1 r4)), (6, .int x22)] dX11_apart_74 rfl rfl (by decide) rfl ?_
            refine j_goto o (tgt := 32) dX11_apart_77 (by decide) ?_
            exact j_pick [1, 2, 3, 4, 5, 0] rfl h)
          refine j_icmp_eq o (tgt := 74) dX11_apart_59 (by decide) (fun c24 => ?_) (fun c24 => ?_)
          · replace h := h.1 c24
            exact j_pick [0, 1, 2, 3, 4, 5] rfl h
          · replace h := h.2 c24
            refine j_aload_n o dX11_apart_62 rfl ?_
            refine j_getf o (g := 1) (slot := 13) (ci := 11) (v := .ref (P.1 13)) rfl jin_X11 (by decide) rfl jf_X11_105 (fun _ => rfl) rfl dX11_apart_63 ?_
            refine j_iload o dX11_apart_66 rfl ?_
            refine j_iinc o (v := x9 + 1) [(6, .int (x9 + 1)), (0, .ref (P.1 1)), (3, .int a3), (4, .ref (P.1 r1)), (5, .ref (P.1 r4)), (7, .int x10)] dX11_apart_68 rfl rfl (by decide) rfl ?_
            refine j_iload o dX11_apart_71 rfl ?_
            obtain ⟨hb25, h⟩ := h
            refine j_iast o (g := 13) (fun _ _ _ => rfl) hb25 dX11_apart_73 ?_
            exact j_pick [1, 2, 3, 4, 0, 5] rfl h)
      exact j_pick [4, 7, 3, 2, 1, 0] rfl h
    · replace h := h.2 c8
      refine j_iconst o (v := (-1)) dX11_apart_24 rfl ?_
      rw [hE]
      exact j_iret o dX11_apart_25 ⟨_, rfl, rfl, rfl, h⟩

abbrev rm_X11_unlike : Room := { frames := 3, cells := 0, slots := 0, locals := 67 }
def w_X11_unlike (P : jP) (a1 : Int32) (a2 : Int32) (M : jM) (Q : Int32 → Prop) : Prop :=
  w_X11_formAt P a1 M (fun r1 =>
  w_X11_formAt P a2 M (fun r4 =>
  (r1 = 0 → (
   Q (-1)
  )) ∧ (r1 ≠ 0 → (
   (r4 ≠ 0 → (
    ∀ R27 : Int32 → Prop, (∀ (x9 : Int32), (
     ((M 2 2) ≤ x9 → (
      Q (-1)
     )) ∧ (¬ (M 2 2) ≤ x9 → (
      cFm P r1 = true ∧
      w_X2_outcomeOn P r1 x9 M (fun r11 =>
      cFm P r4 = true ∧
      w_X2_outcomeOn P r4 x9 M (fun r15 =>
      (r11 = r15 → (
       R27 (x9 + 1)
      )) ∧ (¬ r11 = r15 → (
       Q x9
      ))))
     ))
    ) → R27 x9) →
    R27 0
   )) ∧ (r4 = 0 → (
    Q (-1)
   ))
  ))))
set_option maxRecDepth 20000 in
theorem c_X11_unlike (l : Launch) (P : jP) (a1 : Int32) (a2 : Int32) (M : jM) (N : jN) (Q : Int32 → Prop) (h : w_X11_unlike P a1 a2 M Q) : jC l yX11_unlike cX11_unlike 6 (some .int) rm_X11_unlike LC [.ref (P.1 1), .int a1, .int a2] P M N (jqi P (fun r M' N' => M = M' ∧ N = N' ∧ Q r )) := by
  refine jC_of (by decide +kernel) [(0, .ref (P.1 1)), (1, .int a1), (2, .int a2)] (Nat.le_of_ble_eq_true rfl) rfl (fun X o => ?_)
  obtain ⟨E, hE⟩ : ∃ E, E = jE X rm_X11_unlike (jqi P (fun r M' N' => M = M' ∧ N = N' ∧ Q r )) := ⟨_, rfl⟩
  rw [← hE]
  unfold w_X11_unlike at h
  refine j_aload_n o dX11_unlike_0 rfl ?_
  refine j_iload_n o dX11_unlike_1 rfl ?_
  refine j_callVr (g := 1) (ci := 11) o (c_X11_formAt l P a1 M N _ h) dX11_unlike_2 jc_X11_237 jn_X11_formAt rfl rfl rfl (fun _ => rfl) rfl rfl (fun r1 Mz2 Nz3 h => ?_)
  obtain ⟨rfl, rfl, h⟩ := h
  refine j_qstore_n o [(3, jrf P r1), (0, .ref (P.1 1)), (1, .int a1), (2, .int a2)] dX11_unlike_5 (by decide) rfl ?_
  refine j_aload_n o dX11_unlike_6 rfl ?_
  refine j_iload_n o dX11_unlike_7 rfl ?_
  refine j_callVr (g := 1) (ci := 11) o (c_X11_formAt l P a2 M N _ h) dX11_unlike_8 jc_X11_237 jn_X11_formAt rfl rfl rfl (fun _ => rfl) rfl rfl (fun r4 Mz5 Nz6 h => ?_)
  obtain ⟨rfl, rfl, h⟩ := h
  refine j_qstore o [(4, jrf P r4), (3, jrf P r1), (0, .ref (P.1 1)), (1, .int a1), (2, .int a2)] dX11_unlike_11 (by decide) (by simp [jst1, jst2, jrf_cat]) ?_
  refine j_qload_n o (g := r1) rfl dX11_unlike_13 ?_
  refine j_null2 o (tgt := 22) dX11_unlike_14 (by decide) (fun c7 => ?_) (fun c7 => ?_)
  · replace h := h.1 c7
    refine j_iconst o (v := (-1)) dX11_unlike_22 rfl ?_
    rw [hE]
    exact j_iret o dX11_unlike_23 ⟨_, rfl, rfl, rfl, rfl, h⟩
  · replace h := h.2 c7
    try rw [jrf_n P c7]
    refine j_qload o (g := r4) rfl dX11_unlike_17 ?_
    refine j_nonnull2 o (tgt := 24) dX11_unlike_19 (by decide) (fun c8 => ?_) (fun c8 => ?_)
    · replace h := h.1 c8
      try rw [jrf_n P c8]
      refine j_iconst o (v := 0) dX11_unlike_24 rfl ?_
      refine j_istore o [(5, .int 0), (4, .ref (P.1 r4)), (3, .ref (P.1 r1)), (0, .ref (P.1 1)), (1, .int a1), (2, .int a2)] dX11_unlike_25 (by decide) rfl ?_
      replace h := h (fun (x9 : Int32) => J X P M N 0 0 E 6 27 [(0, .ref (P.1 1)), (3, .ref (P.1 r1)), (4, .ref (P.1 r4)), (5, .int x9)] []) (by
        intro x9 h
        refine j_iload o dX11_unlike_27 rfl ?_
        refine j_aload_n o dX11_unlike_29 rfl ?_
        refine j_getf o (g := 1) (slot := 0) (ci := 11) (v := .ref (P.1 2)) rfl jin_X11 (by decide) rfl jf_X11_23 (fun _ => rfl) rfl dX11_unlike_30 ?_
        refine j_getf o (g := 2) (slot := 2) (ci := 3) (v := .int (M 2 2)) rfl jin_X3 (by decide) rfl jf_X11_77 (fun _ => rfl) rfl dX11_unlike_33 ?_
        refine j_icmp_ge o (tgt := 64) dX11_unlike_36 (by decide) (fun c10 => ?_) (fun c10 => ?_)
        · replace h := h.1 c10
          refine j_iconst o (v := (-1)) dX11_unlike_64 rfl ?_
          rw [hE]
          exact j_iret o dX11_unlike_65 ⟨_, rfl, rfl, rfl, rfl, h⟩
        · replace h := h.2 c10
          refine j_aload_n o dX11_unlike_39 rfl ?_
          refine j_iload o dX11_unlike_40 rfl ?_
          obtain ⟨hb14, h⟩ := h
          refine j_callVi (g := r1) (ci := 2) o (c_X2_outcomeOn l P r1 x9 M N _ h) dX11_unlike_42 jc_X11_241 jn_X2_outcomeOn rfl rfl rfl (fun tA => LC_fm hb14 tA _ _) rfl rfl (fun r11 Mz12 Nz13 h => ?_)
          obtain ⟨rfl, rfl, h⟩ := h
          refine j_aload o dX11_unlike_45 rfl ?_
          refine j_iload o dX11_unlike_47 rfl ?_
          obtain ⟨hb18, h⟩ := h
          refine j_callVi (g := r4) (ci := 2) o (c_X2_outcomeOn l P r4 x9 M N _ h) dX11_unlike_49 jc_X11_241 jn_X2_outcomeOn rfl rfl rfl (fun tA => LC_fm hb18 tA _ _) rfl rfl (fun r15 Mz16 Nz17 h => ?_)
          obtain ⟨rfl, rfl, h⟩ := h
          refine j_icmp_eq o (tgt := 58) dX11_unlike_52 (by decide) (fun c19 => ?_) (fun c19 => ?_)
          · replace h := h.1 c19
            refine j_iinc o (v := x9 + 1) [(5, .int (x9 + 1)), (0, .ref (P.1 1)), (3, .ref (P.1 r1)), (4, .ref (P.1 r4))] dX11_unlike_58 rfl rfl (by decide) rfl ?_
            refine j_goto o (tgt := 27) dX11_unlike_61 (by decide) ?_
            exact j_pick [1, 2, 3, 0] rfl h
          · replace h := h.2 c19
            refine j_iload o dX11_unlike_55 rfl ?_
            rw [hE]
            exact j_iret o dX11_unlike_57 ⟨_, rfl, rfl, rfl, rfl, h⟩)
      exact j_pick [3, 2, 1, 0] rfl h
    · replace h := h.2 c8
      refine j_iconst o (v := (-1)) dX11_unlike_22 rfl ?_
      rw [hE]
      exact j_iret o dX11_unlike_23 ⟨_, rfl, rfl, rfl, rfl, h⟩

abbrev rm_X11_spoiled : Room := { frames := 3, cells := 0, slots := 0, locals := 67 }
def w_X11_spoiled (P : jP) (a1 : Int32) (a2 : Int32) (M : jM) (Q : Int32 → Prop) : Prop :=
  w_X11_formAt P a1 M (fun r1 =>
  w_X11_lawAt P a2 M (fun r4 =>
  (r1 = 0 → (
   Q (-1)
  )) ∧ (r1 ≠ 0 → (
   (r4 ≠ 0 → (
    ∀ R30 : Int32 → Int32 → Prop, (∀ (x9 : Int32) (x10 : Int32), (
     ((M 2 2) ≤ x10 → (
      Q x9
     )) ∧ (¬ (M 2 2) ≤ x10 → (
      cFm P r1 = true ∧
      w_X2_outcomeOn P r1 x10 M (fun r12 =>
      cLw P r4 = true ∧
      jin P (r4 + 3) x10 ∧
      ∀ R72 : Int32 → Prop, (∀ (x18 : Int32), (
       R30 x18 (x10 + 1)
      ) → R72 x18) →
      (r12 = (M (r4 + 3) x10.toNatClampNeg) → (
       R72 x9
      )) ∧ (¬ r12 = (M (r4 + 3) x10.toNatClampNeg) → (
       cFm P r1 = true ∧
       w_X2_lastOn P r1 x10 M (fun r20 =>
       R72 (x9 ||| ((1 : Int32) <<< (r20 &&& 31))))
      )))
     ))
    ) → R30 x9 x10) →
    R30 0 0
   )) ∧ (r4 = 0 → (
    Q (-1)
   ))
  ))))
set_option maxRecDepth 20000 in
theorem c_X11_spoiled (l : Launch) (P : jP) (a1 : Int32) (a2 : Int32) (M : jM) (N : jN) (Q : Int32 → Prop) (h : w_X11_spoiled P a1 a2 M Q) : jC l yX11_spoiled cX11_spoiled 7 (some .int) rm_X11_spoiled LC [.ref (P.1 1), .int a1, .int a2] P M N (jqi P (fun r M' N' => M = M' ∧ N = N' ∧ Q r )) := by
  refine jC_of (by decide +kernel) [(0, .ref (P.1 1)), (1, .int a1), (2, .int a2)] (Nat.le_of_ble_eq_true rfl) rfl (fun X o => ?_)
  obtain ⟨E, hE⟩ : ∃ E, E = jE X rm_X11_spoiled (jqi P (fun r M' N' => M = M' ∧ N = N' ∧ Q r )) := ⟨_, rfl⟩
  rw [← hE]
  unfold w_X11_spoiled at h
  refine j_aload_n o dX11_spoiled_0 rfl ?_
  refine j_iload_n o dX11_spoiled_1 rfl ?_
  refine j_callVr (g := 1) (ci := 11) o (c_X11_formAt l P a1 M N _ h) dX11_spoiled_2 jc_X11_237 jn_X11_formAt rfl rfl rfl (fun _ => rfl) rfl rfl (fun r1 Mz2 Nz3 h => ?_)
  obtain ⟨rfl, rfl, h⟩ := h
  refine j_qstore_n o [(3, jrf P r1), (0, .ref (P.1 1)), (1, .int a1), (2, .int a2)] dX11_spoiled_5 (by decide) rfl ?_
  refine j_aload_n o dX11_spoiled_6 rfl ?_
  refine j_iload_n o dX11_spoiled_7 rfl ?_
  refine j_callVr (g := 1) (ci := 11) o (c_X11_lawAt l P a2 M N _ h) dX11_spoiled_8 jc_X11_191 jn_X11_lawAt rfl rfl rfl (fun _ => rfl) rfl rfl (fun r4 Mz5 Nz6 h => ?_)
  obtain ⟨rfl, rfl, h⟩ := h
  refine j_qstore o [(4, jrf P r4), (3, jrf P r1), (0, .ref (P.1 1)), (1, .int a1), (2, .int a2)] dX11_spoiled_11 (by decide) (by simp [jst1, jst2, jrf_cat]) ?_
  refine j_qload_n o (g := r1) rfl dX11_spoiled_13 ?_
  refine j_null2 o (tgt := 22) dX11_spoiled_14 (by decide) (fun c7 => ?_) (fun c7 => ?_)
  · replace h := h.1 c7
    refine j_iconst o (v := (-1)) dX11_spoiled_22 rfl ?_
    rw [hE]
    exact j_iret o dX11_spoiled_23 ⟨_, rfl, rfl, rfl, rfl, h⟩
  · replace h := h.2 c7
    try rw [jrf_n P c7]
    refine j_qload o (g := r4) rfl dX11_spoiled_17 ?_
    refine j_nonnull2 o (tgt := 24) dX11_spoiled_19 (by decide) (fun c8 => ?_) (fun c8 => ?_)
    · replace h := h.1 c8
      try rw [jrf_n P c8]
      refine j_iconst o (v := 0) dX11_spoiled_24 rfl ?_
      refine j_istore o [(5, .int 0), (4, .ref (P.1 r4)), (3, .ref (P.1 r1)), (0, .ref (P.1 1)), (1, .int a1), (2, .int a2)] dX11_spoiled_25 (by decide) rfl ?_
      refine j_iconst o (v := 0) dX11_spoiled_27 rfl ?_
      refine j_istore o [(6, .int 0), (5, .int 0), (4, .ref (P.1 r4)), (3, .ref (P.1 r1)), (0, .ref (P.1 1)), (1, .int a1), (2, .int a2)] dX11_spoiled_28 (by decide) rfl ?_
      replace h := h (fun (x9 : Int32) (x10 : Int32) => J X P M N 0 0 E 7 30 [(0, .ref (P.1 1)), (3, .ref (P.1 r1)), (4, .ref (P.1 r4)), (5, .int x9), (6, .int x10)] []) (by
        intro x9 x10 h
        refine j_iload o dX11_spoiled_30 rfl ?_
        refine j_aload_n o dX11_spoiled_32 rfl ?_
        refine j_getf o (g := 1) (slot := 0) (ci := 11) (v := .ref (P.1 2)) rfl jin_X11 (by decide) rfl jf_X11_23 (fun _ => rfl) rfl dX11_spoiled_33 ?_
        refine j_getf o (g := 2) (slot := 2) (ci := 3) (v := .int (M 2 2)) rfl jin_X3 (by decide) rfl jf_X11_77 (fun _ => rfl) rfl dX11_spoiled_36 ?_
        refine j_icmp_ge o (tgt := 78) dX11_spoiled_39 (by decide) (fun c11 => ?_) (fun c11 => ?_)
        · replace h := h.1 c11
          refine j_iload o dX11_spoiled_78 rfl ?_
          rw [hE]
          exact j_iret o dX11_spoiled_80 ⟨_, rfl, rfl, rfl, rfl, h⟩
        · replace h := h.2 c11
          refine j_aload_n o dX11_spoiled_42 rfl ?_
          refine j_iload o dX11_spoiled_43 rfl ?_
          obtain ⟨hb15, h⟩ := h
          refine j_callVi (g := r1) (ci := 2) o (c_X2_outcomeOn l P r1 x10 M N _ h) dX11_spoiled_45 jc_X11_241 jn_X2_outcomeOn rfl rfl rfl (fun tA => LC_fm hb15 tA _ _) rfl rfl (fun r12 Mz13 Nz14 h => ?_)
          obtain ⟨rfl, rfl, h⟩ := h
          refine j_aload o dX11_spoiled_48 rfl ?_
          obtain ⟨hb16, h⟩ := h
          refine j_getf o (g := r4) (slot := 3) (ci := 4) (v := .ref (P.1 (r4 + 3))) rfl jin_X4 (by decide) rfl jf_X11_164 (fun tA => LC_lw hb16 tA _ _) rfl dX11_spoiled_50 ?_
          refine j_iload o dX11_spoiled_53 rfl ?_
          obtain ⟨hb17, h⟩ := h
          obtain ⟨nnhb17, hchb17, hihb17⟩ := hb17
          refine j_iald o (g := r4 + 3) (fun tA => LC_ia hchb17 tA _ _) hihb17 dX11_spoiled_55 ?_
          replace h := h (fun (x18 : Int32) => J X P M N 0 0 E 7 72 [(0, .ref (P.1 1)), (3, .ref (P.1 r1)), (4, .ref (P.1 r4)), (5, .int x18), (6, .int x10)] []) (by
            intro x18 h
            refine j_iinc o (v := x10 + 1) [(6, .int (x10 + 1)), (0, .ref (P.1 1)), (3, .ref (P.1 r1)), (4, .ref (P.1 r4)), (5, .int x18)] dX11_spoiled_72 rfl rfl (by decide) rfl ?_
            refine j_goto o (tgt := 30) dX11_spoiled_75 (by decide) ?_
            exact j_pick [1, 2, 3, 4, 0] rfl h)
          refine j_icmp_eq o (tgt := 72) dX11_spoiled_56 (by decide) (fun c19 => ?_) (fun c19 => ?_)
          · replace h := h.1 c19
            exact j_pick [0, 1, 2, 3, 4] rfl h
          · replace h := h.2 c19
            refine j_iload o dX11_spoiled_59 rfl ?_
            refine j_iconst o (v := 1) dX11_spoiled_61 rfl ?_
            refine j_aload_n o dX11_spoiled_62 rfl ?_
            refine j_iload o dX11_spoiled_63 rfl ?_
            obtain ⟨hb23, h⟩ := h
            refine j_callVi (g := r1) (ci := 2) o (c_X2_lastOn l P r1 x10 M N _ h) dX11_spoiled_65 jc_X11_244 jn_X2_lastOn rfl rfl rfl (fun tA => LC_fm hb23 tA _ _) rfl rfl (fun r20 Mz21 Nz22 h => ?_)
            obtain ⟨rfl, rfl, h⟩ := h
            refine j_ishl o dX11_spoiled_68 ?_
            refine j_ior o dX11_spoiled_69 ?_
            refine j_istore o [(5, .int (x9 ||| ((1 : Int32) <<< (r20 &&& 31)))), (0, .ref (P.1 1)), (3, .ref (P.1 r1)), (4, .ref (P.1 r4)), (6, .int x10)] dX11_spoiled_70 (by decide) rfl ?_
            exact j_pick [1, 2, 3, 0, 4] rfl h)
      exact j_pick [4, 3, 2, 1, 0] rfl h
    · replace h := h.2 c8
      refine j_iconst o (v := (-1)) dX11_spoiled_22 rfl ?_
      rw [hE]
      exact j_iret o dX11_spoiled_23 ⟨_, rfl, rfl, rfl, rfl, h⟩

abbrev rm_X11_unused : Room := { frames := 2, cells := 0, slots := 0, locals := 46 }
def w_X11_unused (P : jP) (a1 : Int32) (M : jM) (Q : Int32 → Prop) : Prop :=
  w_X11_formAt P a1 M (fun r1 =>
  (r1 ≠ 0 → (
   ∀ R17 : Int32 → Int32 → Prop, (∀ (x5 : Int32) (x6 : Int32), (
    ((M 2 2) ≤ x6 → (
     cFm P r1 = true ∧
     Q ((((1 : Int32) <<< ((M r1 0) &&& 31)) - 1) &&& (x5 ^^^ (-1)))
    )) ∧ (¬ (M 2 2) ≤ x6 → (
     cFm P r1 = true ∧
     w_X2_nodesOn P r1 x6 M (fun r9 =>
     R17 (x5 ||| r9) (x6 + 1))
    ))
   ) → R17 x5 x6) →
   R17 0 0
  )) ∧ (r1 = 0 → (
   Q (-1)
  )))
set_option maxRecDepth 20000 in
theorem c_X11_unused (l : Launch) (P : jP) (a1 : Int32) (M : jM) (N : jN) (Q : Int32 → Prop) (h : w_X11_unused P a1 M Q) : jC l yX11_unused cX11_unused 5 (some .int) rm_X11_unused LC [.ref (P.1 1), .int a1] P M N (jqi P (fun r M' N' => M = M' ∧ N = N' ∧ Q r )) := by
  refine jC_of (by decide +kernel) [(0, .ref (P.1 1)), (1, .int a1)] (Nat.le_of_ble_eq_true rfl) rfl (fun X o => ?_)
  obtain ⟨E, hE⟩ : ∃ E, E = jE X rm_X11_unused (jqi P (fun r M' N' => M = M' ∧ N = N' ∧ Q r )) := ⟨_, rfl⟩
  rw [← hE]
  unfold w_X11_unused at h
  refine j_aload_n o dX11_unused_0 rfl ?_
  refine j_iload_n o dX11_unused_1 rfl ?_
  refine j_callVr (g := 1) (ci := 11) o (c_X11_formAt l P a1 M N _ h) dX11_unused_2 jc_X11_237 jn_X11_formAt rfl rfl rfl (fun _ => rfl) rfl rfl (fun r1 Mz2 Nz3 h => ?_)
  obtain ⟨rfl, rfl, h⟩ := h
  refine j_qstore_n o [(2, jrf P r1), (0, .ref (P.1 1)), (1, .int a1)] dX11_unused_5 (by decide) rfl ?_
  refine j_qload_n o (g := r1) rfl dX11_unused_6 ?_
  refine j_nonnull2 o (tgt := 12) dX11_unused_7 (by decide) (fun c4 => ?_) (fun c4 => ?_)
  · replace h := h.1 c4
    try rw [jrf_n P c4]
    refine j_iconst o (v := 0) dX11_unused_12 rfl ?_
    refine j_istore_n o [(3, .int 0), (2, .ref (P.1 r1)), (0, .ref (P.1 1)), (1, .int a1)] dX11_unused_13 (by decide) rfl ?_
    refine j_iconst o (v := 0) dX11_unused_14 rfl ?_
    refine j_istore o [(4, .int 0), (3, .int 0), (2, .ref (P.1 r1)), (0, .ref (P.1 1)), (1, .int a1)] dX11_unused_15 (by decide) rfl ?_
    replace h := h (fun (x5 : Int32) (x6 : Int32) => J X P M N 0 0 E 5 17 [(0, .ref (P.1 1)), (2, .ref (P.1 r1)), (3, .int x5), (4, .int x6)] []) (by
      intro x5 x6 h
      refine j_iload o dX11_unused_17 rfl ?_
      refine j_aload_n o dX11_unused_19 rfl ?_
      refine j_getf o (g := 1) (slot := 0) (ci := 11) (v := .ref (P.1 2)) rfl jin_X11 (by decide) rfl jf_X11_23 (fun _ => rfl) rfl dX11_unused_20 ?_
      refine j_getf o (g := 2) (slot := 2) (ci := 3) (v := .int (M 2 2)) rfl jin_X3 (by decide) rfl jf_X11_77 (fun _ => rfl) rfl dX11_unused_23 ?_
      refine j_icmp_ge o (tgt := 44) dX11_unused_26 (by decide) (fun c7 => ?_) (fun c7 => ?_)
      · replace h := h.1 c7
        refine j_iconst o (v := 1) dX11_unused_44 rfl ?_
        refine j_aload_n o dX11_unused_45 rfl ?_
        obtain ⟨hb8, h⟩ := h
        refine j_getf o (g := r1) (slot := 0) (ci := 2) (v := .int (M r1 0)) rfl jin_X2 (by decide) rfl jf_X11_250 (fun tA => LC_fm hb8 tA _ _) rfl dX11_unused_46 ?_
        refine j_ishl o dX11_unused_49 ?_
        refine j_iconst o (v := 1) dX11_unused_50 rfl ?_
        refine j_isub o dX11_unused_51 ?_
        refine j_iload_n o dX11_unused_52 rfl ?_
        refine j_iconst o (v := (-1)) dX11_unused_53 rfl ?_
        refine j_ixor o dX11_unused_54 ?_
        refine j_iand o dX11_unused_55 ?_
        rw [hE]
        exact j_iret o dX11_unused_56 ⟨_, rfl, rfl, rfl, rfl, h⟩
      · replace h := h.2 c7
        refine j_iload_n o dX11_unused_29 rfl ?_
        refine j_aload_n o dX11_unused_30 rfl ?_
        refine j_iload o dX11_unused_31 rfl ?_
        obtain ⟨hb12, h⟩ := h
        refine j_callVi (g := r1) (ci := 2) o (c_X2_nodesOn l P r1 x6 M N _ h) dX11_unused_33 jc_X11_247 jn_X2_nodesOn rfl rfl rfl (fun tA => LC_fm hb12 tA _ _) rfl rfl (fun r9 Mz10 Nz11 h => ?_)
        obtain ⟨rfl, rfl, h⟩ := h
        refine j_ior o dX11_unused_36 ?_
        refine j_istore_n o [(3, .int (x5 ||| r9)), (0, .ref (P.1 1)), (2, .ref (P.1 r1)), (4, .int x6)] dX11_unused_37 (by decide) rfl ?_
        refine j_iinc o (v := x6 + 1) [(4, .int (x6 + 1)), (3, .int (x5 ||| r9)), (0, .ref (P.1 1)), (2, .ref (P.1 r1))] dX11_unused_38 rfl rfl (by decide) rfl ?_
        refine j_goto o (tgt := 17) dX11_unused_41 (by decide) ?_
        exact j_pick [2, 3, 1, 0] rfl h)
    exact j_pick [3, 2, 1, 0] rfl h
  · replace h := h.2 c4
    refine j_iconst o (v := (-1)) dX11_unused_10 rfl ?_
    rw [hE]
    exact j_iret o dX11_unused_11 ⟨_, rfl, rfl, rfl, rfl, h⟩

abbrev rm_X11_set : Room := { frames := 1, cells := 0, slots := 0, locals := 23 }
def w_X11_set (P : jP) (a1 : Int32) (a2 : Int32) (a3 : Int32) (M : jM) (Q : Int32 → jM → Prop) : Prop :=
  (¬ a1 = 1 → (
   w_X9_change P a1 a2 a3 (upM M 8 10 1) (fun r2 M3 =>
   jb r2 ∧
   Q r2 M3)
  )) ∧ (a1 = 1 → (
   w_X6_setMinutes P a2 a3 (upM M 8 10 1) (fun r6 M7 =>
   jb r6 ∧
   Q r6 M7)
  ))
set_option maxRecDepth 20000 in
theorem c_X11_set (l : Launch) (P : jP) (a1 : Int32) (a2 : Int32) (a3 : Int32) (M : jM) (N : jN) (Q : Int32 → jM → Prop) (h : w_X11_set P a1 a2 a3 M Q) : jC l yX11_set cX11_set 4 (some .boolean) rm_X11_set LC [.ref (P.1 1), .int a1, .int a2, .int a3] P M N (jqi P (fun r M' N' => N = N' ∧ Q r M' )) := by
  refine jC_of (by decide +kernel) [(0, .ref (P.1 1)), (1, .int a1), (2, .int a2), (3, .int a3)] (Nat.le_of_ble_eq_true rfl) rfl (fun X o => ?_)
  obtain ⟨E, hE⟩ : ∃ E, E = jE X rm_X11_set (jqi P (fun r M' N' => N = N' ∧ Q r M' )) := ⟨_, rfl⟩
  rw [← hE]
  unfold w_X11_set at h
  refine j_aload_n o dX11_set_0 rfl ?_
  refine j_getf o (g := 1) (slot := 6) (ci := 11) (v := .ref (P.1 8)) rfl jin_X11 (by decide) rfl jf_X11_71 (fun _ => rfl) rfl dX11_set_1 ?_
  refine j_iconst o (v := 1) dX11_set_4 rfl ?_
  refine j_putf o (M1 := upM M 8 10 1) (N1 := N) (g := 8) (slot := 10) (ci := 0) (ty := .boolean) rfl jin_X0 tyX0_ok nmX0 (by decide) rfl rfl jf_X11_253 (by decide +kernel) rfl rfl (Nat.le_of_ble_eq_true rfl) (fun _ => rfl) (fun _ => rfl) (fun _ hj => upM_ne _ _ _ hj) (fun _ _ => rfl) dX11_set_5 ?_
  refine j_iload_n o dX11_set_8 rfl ?_
  refine j_iconst o (v := 1) dX11_set_9 rfl ?_
  refine j_icmp_ne o (tgt := 25) dX11_set_10 (by decide) (fun c1 => ?_) (fun c1 => ?_)
  · replace h := h.1 c1
    refine j_aload_n o dX11_set_25 rfl ?_
    refine j_getf o (g := 1) (slot := 4) (ci := 11) (v := .ref (P.1 6)) rfl jin_X11 (by decide) rfl jf_X11_55 (fun _ => rfl) rfl dX11_set_26 ?_
    refine j_iload_n o dX11_set_29 rfl ?_
    refine j_iload_n o dX11_set_30 rfl ?_
    refine j_iload_n o dX11_set_31 rfl ?_
    refine j_callVi (g := 6) (ci := 9) o (c_X9_change l P a1 a2 a3 (upM M 8 10 1) N _ h) dX11_set_32 jc_X11_260 jn_X9_change rfl rfl rfl (fun _ => rfl) rfl rfl (fun r2 M3 Nz4 h => ?_)
    obtain ⟨rfl, h⟩ := h
    obtain ⟨hz5, h⟩ := h
    rw [hE]
    exact j_zret o hz5.1 dX11_set_35 ⟨_, rfl, rfl, rfl, h⟩
  · replace h := h.2 c1
    refine j_aload_n o dX11_set_13 rfl ?_
    refine j_getf o (g := 1) (slot := 7) (ci := 11) (v := .ref (P.1 9)) rfl jin_X11 (by decide) rfl jf_X11_82 (fun _ => rfl) rfl dX11_set_14 ?_
    refine j_iload_n o dX11_set_17 rfl ?_
    refine j_iload_n o dX11_set_18 rfl ?_
    refine j_callVi (g := 9) (ci := 6) o (c_X6_setMinutes l P a2 a3 (upM M 8 10 1) N _ h) dX11_set_19 jc_X11_257 jn_X6_setMinutes rfl rfl rfl (fun _ => rfl) rfl rfl (fun r6 M7 Nz8 h => ?_)
    obtain ⟨rfl, h⟩ := h
    refine j_goto o (tgt := 35) dX11_set_22 (by decide) ?_
    obtain ⟨hz9, h⟩ := h
    rw [hE]
    exact j_zret o hz9.1 dX11_set_35 ⟨_, rfl, rfl, rfl, h⟩

abbrev rm_X11_sort : Room := { frames := 1, cells := 0, slots := 0, locals := 21 }
def w_X11_sort (P : jP) (a1 : Int32) (M : jM) (Q : Int32 → jM → Prop) : Prop :=
  w_X5_added P a1 (upM M 8 10 1) (fun r1 M2 =>
  Q r1 M2)
set_option maxRecDepth 20000 in
theorem c_X11_sort (l : Launch) (P : jP) (a1 : Int32) (M : jM) (N : jN) (Q : Int32 → jM → Prop) (h : w_X11_sort P a1 M Q) : jC l yX11_sort cX11_sort 2 (some .int) rm_X11_sort LC [.ref (P.1 1), .int a1] P M N (jqi P (fun r M' N' => N = N' ∧ Q r M' )) := by
  refine jC_of (by decide +kernel) [(0, .ref (P.1 1)), (1, .int a1)] (Nat.le_of_ble_eq_true rfl) rfl (fun X o => ?_)
  obtain ⟨E, hE⟩ : ∃ E, E = jE X rm_X11_sort (jqi P (fun r M' N' => N = N' ∧ Q r M' )) := ⟨_, rfl⟩
  rw [← hE]
  unfold w_X11_sort at h
  refine j_aload_n o dX11_sort_0 rfl ?_
  refine j_getf o (g := 1) (slot := 6) (ci := 11) (v := .ref (P.1 8)) rfl jin_X11 (by decide) rfl jf_X11_71 (fun _ => rfl) rfl dX11_sort_1 ?_
  refine j_iconst o (v := 1) dX11_sort_4 rfl ?_
  refine j_putf o (M1 := upM M 8 10 1) (N1 := N) (g := 8) (slot := 10) (ci := 0) (ty := .boolean) rfl jin_X0 tyX0_ok nmX0 (by decide) rfl rfl jf_X11_253 (by decide +kernel) rfl rfl (Nat.le_of_ble_eq_true rfl) (fun _ => rfl) (fun _ => rfl) (fun _ hj => upM_ne _ _ _ hj) (fun _ _ => rfl) dX11_sort_5 ?_
  refine j_aload_n o dX11_sort_8 rfl ?_
  refine j_getf o (g := 1) (slot := 5) (ci := 11) (v := .ref (P.1 7)) rfl jin_X11 (by decide) rfl jf_X11_62 (fun _ => rfl) rfl dX11_sort_9 ?_
  refine j_iload_n o dX11_sort_12 rfl ?_
  refine j_callVi (g := 7) (ci := 5) o (c_X5_added l P a1 (upM M 8 10 1) N _ h) dX11_sort_13 jc_X11_264 jn_X5_added rfl rfl rfl (fun _ => rfl) rfl rfl (fun r1 M2 Nz3 h => ?_)
  obtain ⟨rfl, h⟩ := h
  rw [hE]
  exact j_iret o dX11_sort_16 ⟨_, rfl, rfl, rfl, h⟩

abbrev rm_X11_chance : Room := { frames := 1, cells := 0, slots := 0, locals := 23 }
def w_X11_chance (P : jP) (a1 : Int32) (a2 : Int32) (a3 : Int32) (M : jM) (Q : Int32 → jM → Prop) : Prop :=
  w_X5_setChance P a1 a2 a3 (upM M 8 10 1) (fun r1 M2 =>
  jb r1 ∧
  Q r1 M2)
set_option maxRecDepth 20000 in
theorem c_X11_chance (l : Launch) (P : jP) (a1 : Int32) (a2 : Int32) (a3 : Int32) (M : jM) (N : jN) (Q : Int32 → jM → Prop) (h : w_X11_chance P a1 a2 a3 M Q) : jC l yX11_chance cX11_chance 4 (some .boolean) rm_X11_chance LC [.ref (P.1 1), .int a1, .int a2, .int a3] P M N (jqi P (fun r M' N' => N = N' ∧ Q r M' )) := by
  refine jC_of (by decide +kernel) [(0, .ref (P.1 1)), (1, .int a1), (2, .int a2), (3, .int a3)] (Nat.le_of_ble_eq_true rfl) rfl (fun X o => ?_)
  obtain ⟨E, hE⟩ : ∃ E, E = jE X rm_X11_chance (jqi P (fun r M' N' => N = N' ∧ Q r M' )) := ⟨_, rfl⟩
  rw [← hE]
  unfold w_X11_chance at h
  refine j_aload_n o dX11_chance_0 rfl ?_
  refine j_getf o (g := 1) (slot := 6) (ci := 11) (v := .ref (P.1 8)) rfl jin_X11 (by decide) rfl jf_X11_71 (fun _ => rfl) rfl dX11_chance_1 ?_
  refine j_iconst o (v := 1) dX11_chance_4 rfl ?_
  refine j_putf o (M1 := upM M 8 10 1) (N1 := N) (g := 8) (slot := 10) (ci := 0) (ty := .boolean) rfl jin_X0 tyX0_ok nmX0 (by decide) rfl rfl jf_X11_253 (by decide +kernel) rfl rfl (Nat.le_of_ble_eq_true rfl) (fun _ => rfl) (fun _ => rfl) (fun _ hj => upM_ne _ _ _ hj) (fun _ _ => rfl) dX11_chance_5 ?_
  refine j_aload_n o dX11_chance_8 rfl ?_
  refine j_getf o (g := 1) (slot := 5) (ci := 11) (v := .ref (P.1 7)) rfl jin_X11 (by decide) rfl jf_X11_62 (fun _ => rfl) rfl dX11_chance_9 ?_
  refine j_iload_n o dX11_chance_12 rfl ?_
  refine j_iload_n o dX11_chance_13 rfl ?_
  refine j_iload_n o dX11_chance_14 rfl ?_
  refine j_callVi (g := 7) (ci := 5) o (c_X5_setChance l P a1 a2 a3 (upM M 8 10 1) N _ h) dX11_chance_15 jc_X11_266 jn_X5_setChance rfl rfl rfl (fun _ => rfl) rfl rfl (fun r1 M2 Nz3 h => ?_)
  obtain ⟨rfl, h⟩ := h
  obtain ⟨hz4, h⟩ := h
  rw [hE]
  exact j_zret o hz4.1 dX11_chance_18 ⟨_, rfl, rfl, rfl, h⟩

abbrev rm_X11_share : Room := { frames := 2, cells := 0, slots := 0, locals := 54 }
def w_X11_share (P : jP) (a1 : Int32) (a2 : Int32) (M : jM) (Q : Int64 → Prop) : Prop :=
  w_X3_isKnown P a1 a2 M (fun r1 =>
  (r1 = 0 → (
   Q (-1)
  )) ∧ (¬ r1 = 0 → (
   w_X5_shareOfAll P a1 a2 M (fun r5 =>
   Q r5)
  )))
set_option maxRecDepth 20000 in
theorem c_X11_share (l : Launch) (P : jP) (a1 : Int32) (a2 : Int32) (M : jM) (N : jN) (Q : Int64 → Prop) (h : w_X11_share P a1 a2 M Q) : jC l yX11_share cX11_share 3 (some .long) rm_X11_share LC [.ref (P.1 1), .int a1, .int a2] P M N (jql P (fun r M' N' => M = M' ∧ N = N' ∧ Q r )) := by
  refine jC_of (by decide +kernel) [(0, .ref (P.1 1)), (1, .int a1), (2, .int a2)] (Nat.le_of_ble_eq_true rfl) rfl (fun X o => ?_)
  obtain ⟨E, hE⟩ : ∃ E, E = jE X rm_X11_share (jql P (fun r M' N' => M = M' ∧ N = N' ∧ Q r )) := ⟨_, rfl⟩
  rw [← hE]
  unfold w_X11_share at h
  refine j_aload_n o dX11_share_0 rfl ?_
  refine j_getf o (g := 1) (slot := 0) (ci := 11) (v := .ref (P.1 2)) rfl jin_X11 (by decide) rfl jf_X11_23 (fun _ => rfl) rfl dX11_share_1 ?_
  refine j_iload_n o dX11_share_4 rfl ?_
  refine j_iload_n o dX11_share_5 rfl ?_
  refine j_callVi (g := 2) (ci := 3) o (c_X3_isKnown l P a1 a2 M N _ h) dX11_share_6 jc_X11_207 jn_X3_isKnown rfl rfl rfl (fun _ => rfl) rfl rfl (fun r1 Mz2 Nz3 h => ?_)
  obtain ⟨rfl, rfl, h⟩ := h
  refine j_if_eq o (tgt := 24) dX11_share_9 (by decide) (fun c4 => ?_) (fun c4 => ?_)
  · replace h := h.1 c4
    refine j_ldc2 o jk_X11_273 dX11_share_24 ?_
    rw [hE]
    exact j_lret o dX11_share_27 ⟨_, rfl, rfl, rfl, rfl, h⟩
  · replace h := h.2 c4
    refine j_aload_n o dX11_share_12 rfl ?_
    refine j_getf o (g := 1) (slot := 5) (ci := 11) (v := .ref (P.1 7)) rfl jin_X11 (by decide) rfl jf_X11_62 (fun _ => rfl) rfl dX11_share_13 ?_
    refine j_iload_n o dX11_share_16 rfl ?_
    refine j_iload_n o dX11_share_17 rfl ?_
    refine j_callVl (g := 7) (ci := 5) o (c_X5_shareOfAll l P a1 a2 M N _ h) dX11_share_18 jc_X11_269 jn_X5_shareOfAll rfl rfl rfl (fun _ => rfl) rfl rfl (fun r5 Mz6 Nz7 h => ?_)
    obtain ⟨rfl, rfl, h⟩ := h
    refine j_goto o (tgt := 27) dX11_share_21 (by decide) ?_
    rw [hE]
    exact j_lret o dX11_share_27 ⟨_, rfl, rfl, rfl, rfl, h⟩
