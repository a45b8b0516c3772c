abbrev rm_X12_target : Room := { frames := 2, cells := 0, slots := 0, locals := 40 }
def w_X12_target (P : jP) (a1 : Int32) (M : jM) (Q : Int32 → jM → Prop) : Prop :=
  w_X12_look P M (fun r1 M2 =>
  (¬ r1 = 61 → (
   w_X12_isDigit P M2 (fun r5 =>
   (¬ r5 = 0 → (
    w_X12_here P M2 (fun r9 =>
    w_X12_isDigit P (upM M2 1 5 ((M2 1 5) + 1)) (fun r12 =>
    ∀ R139 : Int32 → jM → Prop, (∀ (x15 : Int32) (M16 : jM), (
     w_X12_isDigit P M16 (fun r17 =>
     (r17 = 0 → (
      ∀ R164 : Prop, ((
       w_X12_fails P (upM M16 1 5 ((M16 1 5) - 1)) (fun r21 M22 =>
       Q 0 M22)
      ) → R164) →
      (x15 ≤ a1 → (
       R164
      )) ∧ (¬ x15 ≤ a1 → (
       (x15 < 12 → (
        ∀ M26 : jM, M26 = upM M16 1 16 (if (M16 1 16) < x15 then x15 else (M16 1 16)) →
        Q x15 M26
       )) ∧ (¬ x15 < 12 → (
        R164
       ))
      ))
     )) ∧ (¬ r17 = 0 → (
      w_X12_fails P M16 (fun r27 M28 =>
      Q 0 M28)
     )))
    ) → R139 x15 M16) →
    (r12 = 0 → (
     R139 (r9 - 48) (upM M2 1 5 ((M2 1 5) + 1))
    )) ∧ (¬ r12 = 0 → (
     w_X12_here P (upM M2 1 5 ((M2 1 5) + 1)) (fun r31 =>
     ∀ M34 : jM, M34 = upM (upM M2 1 5 ((M2 1 5) + 1)) 1 5 (((upM M2 1 5 ((M2 1 5) + 1)) 1 5) + 1) →
     R139 (((10 * (r9 - 48)) + r31) - 48) M34)
    ))))
   )) ∧ (r5 = 0 → (
    w_X12_fails P M2 (fun r35 M36 =>
    Q 0 M36)
   )))
  )) ∧ (r1 = 61 → (
   w_X12_look P (upM M2 1 5 ((M2 1 5) + 1)) (fun r38 M39 =>
   ∀ R49 : Prop, ((
    ∀ R75 : Int32 → Int32 → Prop, (∀ (x41 : Int32) (x42 : Int32), (
     Q (x41 + x42) (upM M39 1 5 ((M39 1 5) + 1))
    ) → R75 x41 x42) →
    (¬ r38 = 45 → (
     R75 100 (r38 - 48)
    )) ∧ (r38 = 45 → (
     R75 100 (-1)
    ))
   ) → R49) →
   (r38 = 45 → (
    R49
   )) ∧ (¬ r38 = 45 → (
    ∀ R42 : Prop, ((
     w_X12_fails P M39 (fun r45 M46 =>
     Q 0 M46)
    ) → R42) →
    (r38 < 48 → (
     R42
    )) ∧ (¬ r38 < 48 → (
     (r38 ≤ 53 → (
      R49
     )) ∧ (¬ r38 ≤ 53 → (
      R42
     ))
    ))
   )))
  )))
set_option maxRecDepth 20000 in
theorem c_X12_target (l : Launch) (P : jP) (a1 : Int32) (M : jM) (N : jN) (Q : Int32 → jM → Prop) (h : w_X12_target P a1 M Q) : jC l yX12_target cX12_target 3 (some .int) rm_X12_target LM [.ref (P.1 1), .int a1] P M N (jqi P (fun r M' N' => N = N' ∧ Q r M' )) := by
  refine jC_of (by decide +kernel) [(0, .ref (P.1 1)), (1, .int a1)] (Nat.le_of_ble_eq_true rfl) rfl (fun X o => ?_)
  obtain ⟨E, hE⟩ : ∃ E, E = jE X rm_X12_target (jqi P (fun r M' N' => N = N' ∧ Q r M' )) := ⟨_, rfl⟩
  rw [← hE]
  unfold w_X12_target at h
  refine j_aload_n o dX12_target_0 rfl ?_
  refine j_callVi (g := 1) (ci := 12) o (c_X12_look l P M N _ h) dX12_target_1 jc_X12_143 jn_X12_look rfl rfl rfl (fun _ => rfl) rfl rfl (fun r1 M2 Nz3 h => ?_)
  obtain ⟨rfl, h⟩ := h
  refine j_bipush o (v := 61) dX12_target_4 rfl ?_
  refine j_icmp_ne o (tgt := 77) dX12_target_6 (by decide) (fun c4 => ?_) (fun c4 => ?_)
  · replace h := h.1 c4
    refine j_aload_n o dX12_target_77 rfl ?_
    refine j_callVi (g := 1) (ci := 12) o (c_X12_isDigit l P M2 N _ h) dX12_target_78 jc_X12_191 jn_X12_isDigit rfl rfl rfl (fun _ => rfl) rfl rfl (fun r5 Mz6 Nz7 h => ?_)
    obtain ⟨rfl, rfl, h⟩ := h
    refine j_if_ne o (tgt := 91) dX12_target_81 (by decide) (fun c8 => ?_) (fun c8 => ?_)
    · replace h := h.1 c8
      refine j_aload_n o dX12_target_91 rfl ?_
      refine j_callVi (g := 1) (ci := 12) o (c_X12_here l P M2 N _ h) dX12_target_92 jc_X12_136 jn_X12_here rfl rfl rfl (fun _ => rfl) rfl rfl (fun r9 Mz10 Nz11 h => ?_)
      obtain ⟨rfl, rfl, h⟩ := h
      refine j_bipush o (v := 48) dX12_target_95 rfl ?_
      refine j_isub o dX12_target_97 ?_
      refine j_istore_n o [(2, .int (r9 - 48)), (0, .ref (P.1 1)), (1, .int a1)] dX12_target_98 (by decide) rfl ?_
      refine j_aload_n o dX12_target_99 rfl ?_
      refine j_dup o dX12_target_100 rfl ?_
      refine j_getf o (g := 1) (slot := 5) (ci := 12) (v := .int (M2 1 5)) rfl jin_X12 (by decide) rfl jf_X12_133 (fun _ => rfl) rfl dX12_target_101 ?_
      refine j_iconst o (v := 1) dX12_target_104 rfl ?_
      refine j_iadd o dX12_target_105 ?_
      refine j_putf o (M1 := upM M2 1 5 ((M2 1 5) + 1)) (N1 := N) (g := 1) (slot := 5) (ci := 12) (ty := .int) rfl jin_X12 tyX12_ok nmX12 (by decide) rfl rfl jf_X12_133 (by decide +kernel) rfl rfl (Nat.le_of_ble_eq_true rfl) (fun _ => rfl) (fun _ => rfl) (fun _ hj => upM_ne _ _ _ hj) (fun _ _ => rfl) dX12_target_106 ?_
      refine j_aload_n o dX12_target_109 rfl ?_
      refine j_callVi (g := 1) (ci := 12) o (c_X12_isDigit l P (upM M2 1 5 ((M2 1 5) + 1)) N _ h) dX12_target_110 jc_X12_191 jn_X12_isDigit rfl rfl rfl (fun _ => rfl) rfl rfl (fun r12 Mz13 Nz14 h => ?_)
      obtain ⟨rfl, rfl, h⟩ := h
      replace h := h (fun (x15 : Int32) (M16 : jM) => J X P M16 N 0 0 E 3 139 [(0, .ref (P.1 1)), (1, .int a1), (2, .int x15)] []) (by
        intro x15 M16 h
        refine j_aload_n o dX12_target_139 rfl ?_
        refine j_callVi (g := 1) (ci := 12) o (c_X12_isDigit l P M16 N _ h) dX12_target_140 jc_X12_191 jn_X12_isDigit rfl rfl rfl (fun _ => rfl) rfl rfl (fun r17 Mz18 Nz19 h => ?_)
        obtain ⟨rfl, rfl, h⟩ := h
        refine j_if_eq o (tgt := 153) dX12_target_143 (by decide) (fun c20 => ?_) (fun c20 => ?_)
        · replace h := h.1 c20
          refine j_iload_n o dX12_target_153 rfl ?_
          refine j_iload_n o dX12_target_154 rfl ?_
          replace h := h (J X P M16 N 0 0 E 3 164 [(0, .ref (P.1 1))] []) (by
            intro h
            refine j_aload_n o dX12_target_164 rfl ?_
            refine j_dup o dX12_target_165 rfl ?_
            refine j_getf o (g := 1) (slot := 5) (ci := 12) (v := .int (M16 1 5)) rfl jin_X12 (by decide) rfl jf_X12_133 (fun _ => rfl) rfl dX12_target_166 ?_
            refine j_iconst o (v := 1) dX12_target_169 rfl ?_
            refine j_isub o dX12_target_170 ?_
            refine j_putf o (M1 := upM M16 1 5 ((M16 1 5) - 1)) (N1 := N) (g := 1) (slot := 5) (ci := 12) (ty := .int) rfl jin_X12 tyX12_ok nmX12 (by decide) rfl rfl jf_X12_133 (by decide +kernel) rfl rfl (Nat.le_of_ble_eq_true rfl) (fun _ => rfl) (fun _ => rfl) (fun _ hj => upM_ne _ _ _ hj) (fun _ _ => rfl) dX12_target_171 ?_
            refine j_aload_n o dX12_target_174 rfl ?_
            refine j_callVi (g := 1) (ci := 12) o (c_X12_fails l P (upM M16 1 5 ((M16 1 5) - 1)) N _ h) dX12_target_175 jc_X12_146 jn_X12_fails rfl rfl rfl (fun _ => rfl) rfl rfl (fun r21 M22 Nz23 h => ?_)
            obtain ⟨rfl, h⟩ := h
            refine j_pop o dX12_target_178 rfl ?_
            refine j_iconst o (v := 0) dX12_target_179 rfl ?_
            rw [hE]
            exact j_iret o dX12_target_180 ⟨_, rfl, rfl, rfl, h⟩)
          refine j_icmp_le o (tgt := 164) dX12_target_155 (by decide) (fun c24 => ?_) (fun c24 => ?_)
          · replace h := h.1 c24
            exact j_pick [0] rfl h
          · replace h := h.2 c24
            refine j_iload_n o dX12_target_158 rfl ?_
            refine j_bipush o (v := 12) dX12_target_159 rfl ?_
            refine j_icmp_lt o (tgt := 181) dX12_target_161 (by decide) (fun c25 => ?_) (fun c25 => ?_)
            · replace h := h.1 c25
              refine j_aload_n o dX12_target_181 rfl ?_
              refine j_aload_n o dX12_target_182 rfl ?_
              refine j_getf o (g := 1) (slot := 16) (ci := 12) (v := .int (M16 1 16)) rfl jin_X12 (by decide) rfl jf_X12_194 (fun _ => rfl) rfl dX12_target_183 ?_
              refine j_iload_n o dX12_target_186 rfl ?_
              refine j_mmax o dX12_target_187 jc_X12_104 rfl ?_
              refine j_putf o (M1 := upM M16 1 16 (if (M16 1 16) < x15 then x15 else (M16 1 16))) (N1 := N) (g := 1) (slot := 16) (ci := 12) (ty := .int) rfl jin_X12 tyX12_ok nmX12 (by decide) rfl rfl jf_X12_194 (by decide +kernel) rfl rfl (Nat.le_of_ble_eq_true rfl) (fun _ => rfl) (fun _ => rfl) (fun _ hj => upM_ne _ _ _ hj) (fun _ _ => rfl) dX12_target_190 ?_
              refine j_nameM (fun M26 hM26 => ?_)
              replace h := h M26 hM26
              refine j_iload_n o dX12_target_193 rfl ?_
              rw [hE]
              exact j_iret o dX12_target_194 ⟨_, rfl, rfl, rfl, h⟩
            · replace h := h.2 c25
              exact j_pick [0] rfl h
        · replace h := h.2 c20
          refine j_aload_n o dX12_target_146 rfl ?_
          refine j_callVi (g := 1) (ci := 12) o (c_X12_fails l P M16 N _ h) dX12_target_147 jc_X12_146 jn_X12_fails rfl rfl rfl (fun _ => rfl) rfl rfl (fun r27 M28 Nz29 h => ?_)
          obtain ⟨rfl, h⟩ := h
          refine j_pop o dX12_target_150 rfl ?_
          refine j_iconst o (v := 0) dX12_target_151 rfl ?_
          rw [hE]
          exact j_iret o dX12_target_152 ⟨_, rfl, rfl, rfl, h⟩)
      refine j_if_eq o (tgt := 139) dX12_target_113 (by decide) (fun c30 => ?_) (fun c30 => ?_)
      · replace h := h.1 c30
        exact j_pick [1, 2, 0] rfl h
      · replace h := h.2 c30
        refine j_bipush o (v := 10) dX12_target_116 rfl ?_
        refine j_iload_n o dX12_target_118 rfl ?_
        refine j_imul o dX12_target_119 ?_
        refine j_aload_n o dX12_target_120 rfl ?_
        refine j_callVi (g := 1) (ci := 12) o (c_X12_here l P (upM M2 1 5 ((M2 1 5) + 1)) N _ h) dX12_target_121 jc_X12_136 jn_X12_here rfl rfl rfl (fun _ => rfl) rfl rfl (fun r31 Mz32 Nz33 h => ?_)
        obtain ⟨rfl, rfl, h⟩ := h
        refine j_iadd o dX12_target_124 ?_
        refine j_bipush o (v := 48) dX12_target_125 rfl ?_
        refine j_isub o dX12_target_127 ?_
        refine j_istore_n o [(2, .int (((10 * (r9 - 48)) + r31) - 48)), (0, .ref (P.1 1)), (1, .int a1)] dX12_target_128 (by decide) rfl ?_
        refine j_aload_n o dX12_target_129 rfl ?_
        refine j_dup o dX12_target_130 rfl ?_
        refine j_getf o (g := 1) (slot := 5) (ci := 12) (v := .int ((upM M2 1 5 ((M2 1 5) + 1)) 1 5)) rfl jin_X12 (by decide) rfl jf_X12_133 (fun _ => rfl) rfl dX12_target_131 ?_
        refine j_iconst o (v := 1) dX12_target_134 rfl ?_
        refine j_iadd o dX12_target_135 ?_
        refine j_putf o (M1 := upM (upM M2 1 5 ((M2 1 5) + 1)) 1 5 (((upM M2 1 5 ((M2 1 5) + 1)) 1 5) + 1)) (N1 := N) (g := 1) (slot := 5) (ci := 12) (ty := .int) rfl jin_X12 tyX12_ok nmX12 (by decide) rfl rfl jf_X12_133 (by decide +kernel) rfl rfl (Nat.le_of_ble_eq_true rfl) (fun _ => rfl) (fun _ => rfl) (fun _ hj => upM_ne _ _ _ hj) (fun _ _ => rfl) dX12_target_136 ?_
        refine j_nameM (fun M34 hM34 => ?_)
        replace h := h M34 hM34
        exact j_pick [1, 2, 0] rfl h
    · replace h := h.2 c8
      refine j_aload_n o dX12_target_84 rfl ?_
      refine j_callVi (g := 1) (ci := 12) o (c_X12_fails l P M2 N _ h) dX12_target_85 jc_X12_146 jn_X12_fails rfl rfl rfl (fun _ => rfl) rfl rfl (fun r35 M36 Nz37 h => ?_)
      obtain ⟨rfl, h⟩ := h
      refine j_pop o dX12_target_88 rfl ?_
      refine j_iconst o (v := 0) dX12_target_89 rfl ?_
      rw [hE]
      exact j_iret o dX12_target_90 ⟨_, rfl, rfl, rfl, h⟩
  · replace h := h.2 c4
    refine j_aload_n o dX12_target_9 rfl ?_
    refine j_dup o dX12_target_10 rfl ?_
    refine j_getf o (g := 1) (slot := 5) (ci := 12) (v := .int (M2 1 5)) rfl jin_X12 (by decide) rfl jf_X12_133 (fun _ => rfl) rfl dX12_target_11 ?_
    refine j_iconst o (v := 1) dX12_target_14 rfl ?_
    refine j_iadd o dX12_target_15 ?_
    refine j_putf o (M1 := upM M2 1 5 ((M2 1 5) + 1)) (N1 := N) (g := 1) (slot := 5) (ci := 12) (ty := .int) rfl jin_X12 tyX12_ok nmX12 (by decide) rfl rfl jf_X12_133 (by decide +kernel) rfl rfl (Nat.le_of_ble_eq_true rfl) (fun _ => rfl) (fun _ => rfl) (fun _ hj => upM_ne _ _ _ hj) (fun _ _ => rfl) dX12_target_16 ?_
    refine j_aload_n o dX12_target_19 rfl ?_
    refine j_callVi (g := 1) (ci := 12) o (c_X12_look l P (upM M2 1 5 ((M2 1 5) + 1)) N _ h) dX12_target_20 jc_X12_143 jn_X12_look rfl rfl rfl (fun _ => rfl) rfl rfl (fun r38 M39 Nz40 h => ?_)
    obtain ⟨rfl, h⟩ := h
    refine j_istore_n o [(2, .int r38), (0, .ref (P.1 1)), (1, .int a1)] dX12_target_23 (by decide) rfl ?_
    refine j_iload_n o dX12_target_24 rfl ?_
    refine j_bipush o (v := 45) dX12_target_25 rfl ?_
    replace h := h (J X P M39 N 0 0 E 3 49 [(0, .ref (P.1 1)), (2, .int r38)] []) (by
      intro h
      refine j_aload_n o dX12_target_49 rfl ?_
      refine j_dup o dX12_target_50 rfl ?_
      refine j_getf o (g := 1) (slot := 5) (ci := 12) (v := .int (M39 1 5)) rfl jin_X12 (by decide) rfl jf_X12_133 (fun _ => rfl) rfl dX12_target_51 ?_
      refine j_iconst o (v := 1) dX12_target_54 rfl ?_
      refine j_iadd o dX12_target_55 ?_
      refine j_putf o (M1 := upM M39 1 5 ((M39 1 5) + 1)) (N1 := N) (g := 1) (slot := 5) (ci := 12) (ty := .int) rfl jin_X12 tyX12_ok nmX12 (by decide) rfl rfl jf_X12_133 (by decide +kernel) rfl rfl (Nat.le_of_ble_eq_true rfl) (fun _ => rfl) (fun _ => rfl) (fun _ hj => upM_ne _ _ _ hj) (fun _ _ => rfl) dX12_target_56 ?_
      refine j_bipush o (v := 100) dX12_target_59 rfl ?_
      refine j_iload_n o dX12_target_61 rfl ?_
      refine j_bipush o (v := 45) dX12_target_62 rfl ?_
      replace h := h (fun (x41 : Int32) (x42 : Int32) => J X P (upM M39 1 5 ((M39 1 5) + 1)) N 0 0 E 3 75 [] [.int x42, .int x41]) (by
        intro x41 x42 h
        refine j_iadd o dX12_target_75 ?_
        rw [hE]
        exact j_iret o dX12_target_76 ⟨_, rfl, rfl, rfl, h⟩)
      refine j_icmp_ne o (tgt := 71) dX12_target_64 (by decide) (fun c43 => ?_) (fun c43 => ?_)
      · replace h := h.1 c43
        refine j_iload_n o dX12_target_71 rfl ?_
        refine j_bipush o (v := 48) dX12_target_72 rfl ?_
        refine j_isub o dX12_target_74 ?_
        exact j_pick [] rfl h
      · replace h := h.2 c43
        refine j_iconst o (v := (-1)) dX12_target_67 rfl ?_
        refine j_goto o (tgt := 75) dX12_target_68 (by decide) ?_
        exact j_pick [] rfl h)
    refine j_icmp_eq o (tgt := 49) dX12_target_27 (by decide) (fun c44 => ?_) (fun c44 => ?_)
    · replace h := h.1 c44
      exact j_pick [1, 0] rfl h
    · replace h := h.2 c44
      refine j_iload_n o dX12_target_30 rfl ?_
      refine j_bipush o (v := 48) dX12_target_31 rfl ?_
      replace h := h (J X P M39 N 0 0 E 3 42 [(0, .ref (P.1 1))] []) (by
        intro h
        refine j_aload_n o dX12_target_42 rfl ?_
        refine j_callVi (g := 1) (ci := 12) o (c_X12_fails l P M39 N _ h) dX12_target_43 jc_X12_146 jn_X12_fails rfl rfl rfl (fun _ => rfl) rfl rfl (fun r45 M46 Nz47 h => ?_)
        obtain ⟨rfl, h⟩ := h
        refine j_pop o dX12_target_46 rfl ?_
        refine j_iconst o (v := 0) dX12_target_47 rfl ?_
        rw [hE]
        exact j_iret o dX12_target_48 ⟨_, rfl, rfl, rfl, h⟩)
      refine j_icmp_lt o (tgt := 42) dX12_target_33 (by decide) (fun c48 => ?_) (fun c48 => ?_)
      · replace h := h.1 c48
        exact j_pick [1] rfl h
      · replace h := h.2 c48
        refine j_iload_n o dX12_target_36 rfl ?_
        refine j_bipush o (v := 53) dX12_target_37 rfl ?_
        refine j_icmp_le o (tgt := 49) dX12_target_39 (by decide) (fun c49 => ?_) (fun c49 => ?_)
        · replace h := h.1 c49
          exact j_pick [1, 0] rfl h
        · replace h := h.2 c49
          exact j_pick [1] rfl h

abbrev rm_X12_readForm : Room := { frames := 3, cells := 0, slots := 0, locals := 62 }
def w_X12_readForm (P : jP) (a1 : Int32) (M : jM) (Q : jM → Prop) : Prop :=
  w_X12_begin P 0 M (fun M1 =>
  vp_in a1 (7) ∧
  ∀ R19 : Int32 → jM → Prop, (∀ (x4 : Int32) (M5 : jM), (
   (x4 = 0 → (
    w_X12_look P M5 (fun r7 M8 =>
    ∀ R223 : Prop, ((
     w_X12_fails P M8 (fun r10 M11 =>
     Q M11)
    ) → R223) →
    (¬ r7 = (-1) → (
     R223
    )) ∧ (r7 = (-1) → (
     vp_in a1 (7) ∧
     ((M8 1 16) < (M8 7 a1.toNatClampNeg) → (
      Q M8
     )) ∧ (¬ (M8 1 16) < (M8 7 a1.toNatClampNeg) → (
      R223
     ))
    )))
   )) ∧ (¬ x4 = 0 → (
    w_X12_look P M5 (fun r16 M17 =>
    w_X12_isFact P r16 M17 (fun r19 =>
    (¬ r19 = 0 → (
     vp_in a1 (7) ∧
     ∀ y24 : Int32, y24 = (12 * a1) + ((upM M17 1 5 ((M17 1 5) + 1)) 7 a1.toNatClampNeg) →
     vp_in y24 (84) ∧
     ∀ M26 : jM, M26 = upM (upM M17 1 5 ((M17 1 5) + 1)) 4 y24.toNatClampNeg (r16 - 97) →
     w_X12_takes P 62 M26 (fun r27 M28 =>
     (¬ r27 = 0 → (
      vp_in a1 (7) ∧
      w_X12_target P (M28 7 a1.toNatClampNeg) M28 (fun r32 M33 =>
      vp_in y24 (84) ∧
      w_X12_takes P 44 (upM M33 5 y24.toNatClampNeg r32) (fun r36 M37 =>
      (¬ r36 = 0 → (
       vp_in a1 (7) ∧
       w_X12_target P (M37 7 a1.toNatClampNeg) M37 (fun r41 M42 =>
       vp_in y24 (84) ∧
       (((upM M42 6 y24.toNatClampNeg r41) 1 6) = (-1) → (
        vp_in a1 (7) ∧
        vp_in a1 (7) ∧
        ∀ M48 : jM, M48 = upM (upM M42 6 y24.toNatClampNeg r41) 7 a1.toNatClampNeg (((upM M42 6 y24.toNatClampNeg r41) 7 a1.toNatClampNeg) + 1) →
        w_X12_look P M48 (fun r49 M50 =>
        ∀ R163 : Int32 → Prop, (∀ (x52 : Int32), (
         ∀ R185 : Prop, ((
          (x52 = 0 → (
           R19 x52 M50
          )) ∧ (¬ x52 = 0 → (
           R19 x52 (upM M50 1 5 ((M50 1 5) + 1))
          ))
         ) → R185) →
         (x52 = 0 → (
          R185
         )) ∧ (¬ x52 = 0 → (
          vp_in a1 (7) ∧
          (¬ (M50 7 a1.toNatClampNeg) = 12 → (
           R185
          )) ∧ ((M50 7 a1.toNatClampNeg) = 12 → (
           w_X12_fails P M50 (fun r57 M58 =>
           Q M58)
          ))
         ))
        ) → R163 x52) →
        (¬ r49 = 59 → (
         R163 0
        )) ∧ (r49 = 59 → (
         R163 1
        )))
       )) ∧ (¬ ((upM M42 6 y24.toNatClampNeg r41) 1 6) = (-1) → (
        Q (upM M42 6 y24.toNatClampNeg r41)
       )))
      )) ∧ (r36 = 0 → (
       Q M37
      ))))
     )) ∧ (r27 = 0 → (
      Q M28
     )))
    )) ∧ (r19 = 0 → (
     w_X12_fails P M17 (fun r61 M62 =>
     Q M62)
    ))))
   ))
  ) → R19 x4 M5) →
  R19 1 (upM (upM M1 1 16 0) 7 a1.toNatClampNeg 0))
set_option maxRecDepth 20000 in
theorem c_X12_readForm (l : Launch) (P : jP) (a1 : Int32) (M : jM) (N : jN) (Q : jM → Prop) (h : w_X12_readForm P a1 M Q) : jC l yX12_readForm cX12_readForm 5 none rm_X12_readForm LM [.ref (P.1 1), .int a1] P M N (jqv P (fun M' N' => N = N' ∧ Q M' )) := by
  refine jC_of (by decide +kernel) [(0, .ref (P.1 1)), (1, .int a1)] (Nat.le_of_ble_eq_true rfl) rfl (fun X o => ?_)
  obtain ⟨E, hE⟩ : ∃ E, E = jE X rm_X12_readForm (jqv P (fun M' N' => N = N' ∧ Q M' )) := ⟨_, rfl⟩
  rw [← hE]
  unfold w_X12_readForm at h
  refine j_aload_n o dX12_readForm_0 rfl ?_
  refine j_iconst o (v := 0) dX12_readForm_1 rfl ?_
  refine j_callVv (g := 1) (ci := 12) o (c_X12_begin l P 0 M N _ h) dX12_readForm_2 jc_X12_182 jn_X12_begin rfl rfl rfl (fun _ => rfl) rfl rfl (fun M1 Nz2 h => ?_)
  obtain ⟨rfl, h⟩ := h
  refine j_aload_n o dX12_readForm_5 rfl ?_
  refine j_iconst o (v := 0) dX12_readForm_6 rfl ?_
  refine j_putf o (M1 := upM M1 1 16 0) (N1 := N) (g := 1) (slot := 16) (ci := 12) (ty := .int) rfl jin_X12 tyX12_ok nmX12 (by decide) rfl rfl jf_X12_194 (by decide +kernel) rfl rfl (Nat.le_of_ble_eq_true rfl) (fun _ => rfl) (fun _ => rfl) (fun _ hj => upM_ne _ _ _ hj) (fun _ _ => rfl) dX12_readForm_7 ?_
  refine j_aload_n o dX12_readForm_10 rfl ?_
  refine j_getf o (g := 1) (slot := 15) (ci := 12) (v := .ref (P.1 7)) rfl jin_X12 (by decide) rfl jf_X12_26 (fun _ => rfl) rfl dX12_readForm_11 ?_
  refine j_iload_n o dX12_readForm_14 rfl ?_
  refine j_iconst o (v := 0) dX12_readForm_15 rfl ?_
  obtain ⟨hb3, h⟩ := h
  refine j_iast o (g := 7) (fun _ _ _ => rfl) hb3 dX12_readForm_16 ?_
  refine j_iconst o (v := 1) dX12_readForm_17 rfl ?_
  refine j_istore_n o [(2, .int 1), (0, .ref (P.1 1)), (1, .int a1)] dX12_readForm_18 (by decide) rfl ?_
  replace h := h (fun (x4 : Int32) (M5 : jM) => J X P M5 N 0 0 E 5 19 [(0, .ref (P.1 1)), (1, .int a1), (2, .int x4)] []) (by
    intro x4 M5 h
    refine j_iload_n o dX12_readForm_19 rfl ?_
    refine j_if_eq o (tgt := 202) dX12_readForm_20 (by decide) (fun c6 => ?_) (fun c6 => ?_)
    · replace h := h.1 c6
      refine j_aload_n o dX12_readForm_202 rfl ?_
      refine j_callVi (g := 1) (ci := 12) o (c_X12_look l P M5 N _ h) dX12_readForm_203 jc_X12_143 jn_X12_look rfl rfl rfl (fun _ => rfl) rfl rfl (fun r7 M8 Nz9 h => ?_)
      obtain ⟨rfl, h⟩ := h
      refine j_iconst o (v := (-1)) dX12_readForm_206 rfl ?_
      replace h := h (J X P M8 N 0 0 E 5 223 [(0, .ref (P.1 1))] []) (by
        intro h
        refine j_aload_n o dX12_readForm_223 rfl ?_
        refine j_callVi (g := 1) (ci := 12) o (c_X12_fails l P M8 N _ h) dX12_readForm_224 jc_X12_146 jn_X12_fails rfl rfl rfl (fun _ => rfl) rfl rfl (fun r10 M11 Nz12 h => ?_)
        obtain ⟨rfl, h⟩ := h
        refine j_pop o dX12_readForm_227 rfl ?_
        rw [hE]
        exact j_vret o dX12_readForm_228 ⟨rfl, rfl, rfl, h⟩)
      refine j_icmp_ne o (tgt := 223) dX12_readForm_207 (by decide) (fun c13 => ?_) (fun c13 => ?_)
      · replace h := h.1 c13
        exact j_pick [0] rfl h
      · replace h := h.2 c13
        refine j_aload_n o dX12_readForm_210 rfl ?_
        refine j_getf o (g := 1) (slot := 16) (ci := 12) (v := .int (M8 1 16)) rfl jin_X12 (by decide) rfl jf_X12_194 (fun _ => rfl) rfl dX12_readForm_211 ?_
        refine j_aload_n o dX12_readForm_214 rfl ?_
        refine j_getf o (g := 1) (slot := 15) (ci := 12) (v := .ref (P.1 7)) rfl jin_X12 (by decide) rfl jf_X12_26 (fun _ => rfl) rfl dX12_readForm_215 ?_
        refine j_iload_n o dX12_readForm_218 rfl ?_
        obtain ⟨hb14, h⟩ := h
        refine j_iald o (g := 7) (fun _ => rfl) hb14 dX12_readForm_219 ?_
        refine j_icmp_lt o (tgt := 228) dX12_readForm_220 (by decide) (fun c15 => ?_) (fun c15 => ?_)
        · replace h := h.1 c15
          rw [hE]
          exact j_vret o dX12_readForm_228 ⟨rfl, rfl, rfl, h⟩
        · replace h := h.2 c15
          exact j_pick [0] rfl h
    · replace h := h.2 c6
      refine j_aload_n o dX12_readForm_23 rfl ?_
      refine j_callVi (g := 1) (ci := 12) o (c_X12_look l P M5 N _ h) dX12_readForm_24 jc_X12_143 jn_X12_look rfl rfl rfl (fun _ => rfl) rfl rfl (fun r16 M17 Nz18 h => ?_)
      obtain ⟨rfl, h⟩ := h
      refine j_istore_n o [(3, .int r16), (0, .ref (P.1 1)), (1, .int a1), (2, .int x4)] dX12_readForm_27 (by decide) rfl ?_
      refine j_aload_n o dX12_readForm_28 rfl ?_
      refine j_iload_n o dX12_readForm_29 rfl ?_
      refine j_callVi (g := 1) (ci := 12) o (c_X12_isFact l P r16 M17 N _ h) dX12_readForm_30 jc_X12_153 jn_X12_isFact rfl rfl rfl (fun _ => rfl) rfl rfl (fun r19 Mz20 Nz21 h => ?_)
      obtain ⟨rfl, rfl, h⟩ := h
      refine j_if_ne o (tgt := 42) dX12_readForm_33 (by decide) (fun c22 => ?_) (fun c22 => ?_)
      · replace h := h.1 c22
        refine j_aload_n o dX12_readForm_42 rfl ?_
        refine j_dup o dX12_readForm_43 rfl ?_
        refine j_getf o (g := 1) (slot := 5) (ci := 12) (v := .int (M17 1 5)) rfl jin_X12 (by decide) rfl jf_X12_133 (fun _ => rfl) rfl dX12_readForm_44 ?_
        refine j_iconst o (v := 1) dX12_readForm_47 rfl ?_
        refine j_iadd o dX12_readForm_48 ?_
        refine j_putf o (M1 := upM M17 1 5 ((M17 1 5) + 1)) (N1 := N) (g := 1) (slot := 5) (ci := 12) (ty := .int) rfl jin_X12 tyX12_ok nmX12 (by decide) rfl rfl jf_X12_133 (by decide +kernel) rfl rfl (Nat.le_of_ble_eq_true rfl) (fun _ => rfl) (fun _ => rfl) (fun _ hj => upM_ne _ _ _ hj) (fun _ _ => rfl) dX12_readForm_49 ?_
        refine j_bipush o (v := 12) dX12_readForm_52 rfl ?_
        refine j_iload_n o dX12_readForm_54 rfl ?_
        refine j_imul o dX12_readForm_55 ?_
        refine j_aload_n o dX12_readForm_56 rfl ?_
        refine j_getf o (g := 1) (slot := 15) (ci := 12) (v := .ref (P.1 7)) rfl jin_X12 (by decide) rfl jf_X12_26 (fun _ => rfl) rfl dX12_readForm_57 ?_
        refine j_iload_n o dX12_readForm_60 rfl ?_
        obtain ⟨hb23, h⟩ := h
        refine j_iald o (g := 7) (fun _ => rfl) hb23 dX12_readForm_61 ?_
        refine j_iadd o dX12_readForm_62 ?_
        refine j_topi (fun y24 hy24 => ?_)
        replace h := h y24 hy24
        refine j_istore o [(4, .int y24), (3, .int r16), (0, .ref (P.1 1)), (1, .int a1), (2, .int x4)] dX12_readForm_63 (by decide) rfl ?_
        refine j_aload_n o dX12_readForm_65 rfl ?_
        refine j_getf o (g := 1) (slot := 12) (ci := 12) (v := .ref (P.1 4)) rfl jin_X12 (by decide) rfl jf_X12_17 (fun _ => rfl) rfl dX12_readForm_66 ?_
        refine j_iload o dX12_readForm_69 rfl ?_
        refine j_iload_n o dX12_readForm_71 rfl ?_
        refine j_bipush o (v := 97) dX12_readForm_72 rfl ?_
        refine j_isub o dX12_readForm_74 ?_
        obtain ⟨hb25, h⟩ := h
        refine j_iast o (g := 4) (fun _ _ _ => rfl) hb25 dX12_readForm_75 ?_
        refine j_nameM (fun M26 hM26 => ?_)
        replace h := h M26 hM26
        refine j_aload_n o dX12_readForm_76 rfl ?_
        refine j_bipush o (v := 62) dX12_readForm_77 rfl ?_
        refine j_callVi (g := 1) (ci := 12) o (c_X12_takes l P 62 M26 N _ h) dX12_readForm_79 jc_X12_173 jn_X12_takes rfl rfl rfl (fun _ => rfl) rfl rfl (fun r27 M28 Nz29 h => ?_)
        obtain ⟨rfl, h⟩ := h
        refine j_if_ne o (tgt := 86) dX12_readForm_82 (by decide) (fun c30 => ?_) (fun c30 => ?_)
        · replace h := h.1 c30
          refine j_aload_n o dX12_readForm_86 rfl ?_
          refine j_getf o (g := 1) (slot := 13) (ci := 12) (v := .ref (P.1 5)) rfl jin_X12 (by decide) rfl jf_X12_20 (fun _ => rfl) rfl dX12_readForm_87 ?_
          refine j_iload o dX12_readForm_90 rfl ?_
          refine j_aload_n o dX12_readForm_92 rfl ?_
          refine j_aload_n o dX12_readForm_93 rfl ?_
          refine j_getf o (g := 1) (slot := 15) (ci := 12) (v := .ref (P.1 7)) rfl jin_X12 (by decide) rfl jf_X12_26 (fun _ => rfl) rfl dX12_readForm_94 ?_
          refine j_iload_n o dX12_readForm_97 rfl ?_
          obtain ⟨hb31, h⟩ := h
          refine j_iald o (g := 7) (fun _ => rfl) hb31 dX12_readForm_98 ?_
          refine j_callVi (g := 1) (ci := 12) o (c_X12_target l P (M28 7 a1.toNatClampNeg) M28 N _ h) dX12_readForm_99 jc_X12_197 jn_X12_target rfl rfl rfl (fun _ => rfl) rfl rfl (fun r32 M33 Nz34 h => ?_)
          obtain ⟨rfl, h⟩ := h
          obtain ⟨hb35, h⟩ := h
          refine j_iast o (g := 5) (fun _ _ _ => rfl) hb35 dX12_readForm_102 ?_
          refine j_aload_n o dX12_readForm_103 rfl ?_
          refine j_bipush o (v := 44) dX12_readForm_104 rfl ?_
          refine j_callVi (g := 1) (ci := 12) o (c_X12_takes l P 44 (upM M33 5 y24.toNatClampNeg r32) N _ h) dX12_readForm_106 jc_X12_173 jn_X12_takes rfl rfl rfl (fun _ => rfl) rfl rfl (fun r36 M37 Nz38 h => ?_)
          obtain ⟨rfl, h⟩ := h
          refine j_if_ne o (tgt := 113) dX12_readForm_109 (by decide) (fun c39 => ?_) (fun c39 => ?_)
          · replace h := h.1 c39
            refine j_aload_n o dX12_readForm_113 rfl ?_
            refine j_getf o (g := 1) (slot := 14) (ci := 12) (v := .ref (P.1 6)) rfl jin_X12 (by decide) rfl jf_X12_23 (fun _ => rfl) rfl dX12_readForm_114 ?_
            refine j_iload o dX12_readForm_117 rfl ?_
            refine j_aload_n o dX12_readForm_119 rfl ?_
            refine j_aload_n o dX12_readForm_120 rfl ?_
            refine j_getf o (g := 1) (slot := 15) (ci := 12) (v := .ref (P.1 7)) rfl jin_X12 (by decide) rfl jf_X12_26 (fun _ => rfl) rfl dX12_readForm_121 ?_
            refine j_iload_n o dX12_readForm_124 rfl ?_
            obtain ⟨hb40, h⟩ := h
            refine j_iald o (g := 7) (fun _ => rfl) hb40 dX12_readForm_125 ?_
            refine j_callVi (g := 1) (ci := 12) o (c_X12_target l P (M37 7 a1.toNatClampNeg) M37 N _ h) dX12_readForm_126 jc_X12_197 jn_X12_target rfl rfl rfl (fun _ => rfl) rfl rfl (fun r41 M42 Nz43 h => ?_)
            obtain ⟨rfl, h⟩ := h
            obtain ⟨hb44, h⟩ := h
            refine j_iast o (g := 6) (fun _ _ _ => rfl) hb44 dX12_readForm_129 ?_
            refine j_aload_n o dX12_readForm_130 rfl ?_
            refine j_getf o (g := 1) (slot := 6) (ci := 12) (v := .int ((upM M42 6 y24.toNatClampNeg r41) 1 6)) rfl jin_X12 (by decide) rfl jf_X12_140 (fun _ => rfl) rfl dX12_readForm_131 ?_
            refine j_iconst o (v := (-1)) dX12_readForm_134 rfl ?_
            refine j_icmp_eq o (tgt := 139) dX12_readForm_135 (by decide) (fun c45 => ?_) (fun c45 => ?_)
            · replace h := h.1 c45
              refine j_aload_n o dX12_readForm_139 rfl ?_
              refine j_getf o (g := 1) (slot := 15) (ci := 12) (v := .ref (P.1 7)) rfl jin_X12 (by decide) rfl jf_X12_26 (fun _ => rfl) rfl dX12_readForm_140 ?_
              refine j_iload_n o dX12_readForm_143 rfl ?_
              refine j_dup2 o dX12_readForm_144 rfl rfl ?_
              obtain ⟨hb46, h⟩ := h
              refine j_iald o (g := 7) (fun _ => rfl) hb46 dX12_readForm_145 ?_
              refine j_iconst o (v := 1) dX12_readForm_146 rfl ?_
              refine j_iadd o dX12_readForm_147 ?_
              obtain ⟨hb47, h⟩ := h
              refine j_iast o (g := 7) (fun _ _ _ => rfl) hb47 dX12_readForm_148 ?_
              refine j_nameM (fun M48 hM48 => ?_)
              replace h := h M48 hM48
              refine j_aload_n o dX12_readForm_149 rfl ?_
              refine j_callVi (g := 1) (ci := 12) o (c_X12_look l P M48 N _ h) dX12_readForm_150 jc_X12_143 jn_X12_look rfl rfl rfl (fun _ => rfl) rfl rfl (fun r49 M50 Nz51 h => ?_)
              obtain ⟨rfl, h⟩ := h
              refine j_bipush o (v := 59) dX12_readForm_153 rfl ?_
              replace h := h (fun (x52 : Int32) => J X P M50 N 0 0 E 5 163 [(0, .ref (P.1 1)), (1, .int a1)] [.int x52]) (by
                intro x52 h
                refine j_istore_n o [(2, .int x52), (0, .ref (P.1 1)), (1, .int a1)] dX12_readForm_163 (by decide) rfl ?_
                refine j_iload_n o dX12_readForm_164 rfl ?_
                replace h := h (J X P M50 N 0 0 E 5 185 [(0, .ref (P.1 1)), (1, .int a1), (2, .int x52)] []) (by
                  intro h
                  refine j_iload_n o dX12_readForm_185 rfl ?_
                  refine j_if_eq o (tgt := 199) dX12_readForm_186 (by decide) (fun c53 => ?_) (fun c53 => ?_)
                  · replace h := h.1 c53
                    refine j_goto o (tgt := 19) dX12_readForm_199 (by decide) ?_
                    exact j_pick [0, 1, 2] rfl h
                  · replace h := h.2 c53
                    refine j_aload_n o dX12_readForm_189 rfl ?_
                    refine j_dup o dX12_readForm_190 rfl ?_
                    refine j_getf o (g := 1) (slot := 5) (ci := 12) (v := .int (M50 1 5)) rfl jin_X12 (by decide) rfl jf_X12_133 (fun _ => rfl) rfl dX12_readForm_191 ?_
                    refine j_iconst o (v := 1) dX12_readForm_194 rfl ?_
                    refine j_iadd o dX12_readForm_195 ?_
                    refine j_putf o (M1 := upM M50 1 5 ((M50 1 5) + 1)) (N1 := N) (g := 1) (slot := 5) (ci := 12) (ty := .int) rfl jin_X12 tyX12_ok nmX12 (by decide) rfl rfl jf_X12_133 (by decide +kernel) rfl rfl (Nat.le_of_ble_eq_true rfl) (fun _ => rfl) (fun _ => rfl) (fun _ hj => upM_ne _ _ _ hj) (fun _ _ => rfl) dX12_readForm_196 ?_
                    refine j_goto o (tgt := 19) dX12_readForm_199 (by decide) ?_
                    exact j_pick [0, 1, 2] rfl h)
                refine j_if_eq o (tgt := 185) dX12_readForm_165 (by decide) (fun c54 => ?_) (fun c54 => ?_)
                · replace h := h.1 c54
                  exact j_pick [1, 2, 0] rfl h
                · replace h := h.2 c54
                  refine j_aload_n o dX12_readForm_168 rfl ?_
                  refine j_getf o (g := 1) (slot := 15) (ci := 12) (v := .ref (P.1 7)) rfl jin_X12 (by decide) rfl jf_X12_26 (fun _ => rfl) rfl dX12_readForm_169 ?_
                  refine j_iload_n o dX12_readForm_172 rfl ?_
                  obtain ⟨hb55, h⟩ := h
                  refine j_iald o (g := 7) (fun _ => rfl) hb55 dX12_readForm_173 ?_
                  refine j_bipush o (v := 12) dX12_readForm_174 rfl ?_
                  refine j_icmp_ne o (tgt := 185) dX12_readForm_176 (by decide) (fun c56 => ?_) (fun c56 => ?_)
                  · replace h := h.1 c56
                    exact j_pick [1, 2, 0] rfl h
                  · replace h := h.2 c56
                    refine j_aload_n o dX12_readForm_179 rfl ?_
                    refine j_callVi (g := 1) (ci := 12) o (c_X12_fails l P M50 N _ h) dX12_readForm_180 jc_X12_146 jn_X12_fails rfl rfl rfl (fun _ => rfl) rfl rfl (fun r57 M58 Nz59 h => ?_)
                    obtain ⟨rfl, h⟩ := h
                    refine j_pop o dX12_readForm_183 rfl ?_
                    rw [hE]
                    exact j_vret o dX12_readForm_184 ⟨rfl, rfl, rfl, h⟩)
              refine j_icmp_ne o (tgt := 162) dX12_readForm_155 (by decide) (fun c60 => ?_) (fun c60 => ?_)
              · replace h := h.1 c60
                refine j_iconst o (v := 0) dX12_readForm_162 rfl ?_
                exact j_pick [2, 3] rfl h
              · replace h := h.2 c60
                refine j_iconst o (v := 1) dX12_readForm_158 rfl ?_
                refine j_goto o (tgt := 163) dX12_readForm_159 (by decide) ?_
                exact j_pick [2, 3] rfl h
            · replace h := h.2 c45
              rw [hE]
              exact j_vret o dX12_readForm_138 ⟨rfl, rfl, rfl, h⟩
          · replace h := h.2 c39
            rw [hE]
            exact j_vret o dX12_readForm_112 ⟨rfl, rfl, rfl, h⟩
        · replace h := h.2 c30
          rw [hE]
          exact j_vret o dX12_readForm_85 ⟨rfl, rfl, rfl, h⟩
      · replace h := h.2 c22
        refine j_aload_n o dX12_readForm_36 rfl ?_
        refine j_callVi (g := 1) (ci := 12) o (c_X12_fails l P M17 N _ h) dX12_readForm_37 jc_X12_146 jn_X12_fails rfl rfl rfl (fun _ => rfl) rfl rfl (fun r61 M62 Nz63 h => ?_)
        obtain ⟨rfl, h⟩ := h
        refine j_pop o dX12_readForm_40 rfl ?_
        rw [hE]
        exact j_vret o dX12_readForm_41 ⟨rfl, rfl, rfl, h⟩)
  exact j_pick [1, 2, 0] rfl h

abbrev rm_X12_readAs : Room := { frames := 45, cells := 0, slots := 0, locals := 989 }
def w_X12_readAs (P : jP) (a1 : Int32) (M : jM) (Q : jM → Prop) : Prop :=
  (¬ a1 = 0 → (
   (¬ a1 = 2 → (
    w_X12_readQuestion P 0 M (fun r3 M4 =>
    Q M4)
   )) ∧ (a1 = 2 → (
    w_X12_readForm P 6 M (fun M6 =>
    Q M6)
   ))
  )) ∧ (a1 = 0 → (
   w_X12_readLaw P 0 M (fun M8 =>
   Q M8)
  ))
set_option maxRecDepth 20000 in
theorem c_X12_readAs (l : Launch) (P : jP) (a1 : Int32) (M : jM) (N : jN) (Q : jM → Prop) (h : w_X12_readAs P a1 M Q) : jC l yX12_readAs cX12_readAs 3 none rm_X12_readAs LM [.ref (P.1 1), .int a1] P M N (jqv P (fun M' N' => N = N' ∧ Q M' )) := by
  refine jC_of (by decide +kernel) [(0, .ref (P.1 1)), (1, .int a1)] (Nat.le_of_ble_eq_true rfl) rfl (fun X o => ?_)
  obtain ⟨E, hE⟩ : ∃ E, E = jE X rm_X12_readAs (jqv P (fun M' N' => N = N' ∧ Q M' )) := ⟨_, rfl⟩
  rw [← hE]
  unfold w_X12_readAs at h
  refine j_iload_n o dX12_readAs_0 rfl ?_
  refine j_if_ne o (tgt := 12) dX12_readAs_1 (by decide) (fun c1 => ?_) (fun c1 => ?_)
  · replace h := h.1 c1
    refine j_iload_n o dX12_readAs_12 rfl ?_
    refine j_iconst o (v := 2) dX12_readAs_13 rfl ?_
    refine j_icmp_ne o (tgt := 26) dX12_readAs_14 (by decide) (fun c2 => ?_) (fun c2 => ?_)
    · replace h := h.1 c2
      refine j_aload_n o dX12_readAs_26 rfl ?_
      refine j_iconst o (v := 0) dX12_readAs_27 rfl ?_
      refine j_callVi (g := 1) (ci := 12) o (c_X12_readQuestion l P 0 M N _ h) dX12_readAs_28 jc_X12_206 jn_X12_readQuestion rfl rfl rfl (fun _ => rfl) rfl rfl (fun r3 M4 Nz5 h => ?_)
      obtain ⟨rfl, h⟩ := h
      refine j_istore_n o [(2, .int r3), (0, .ref (P.1 1)), (1, .int a1)] dX12_readAs_31 (by decide) rfl ?_
      rw [hE]
      exact j_vret o dX12_readAs_32 ⟨rfl, rfl, rfl, h⟩
    · replace h := h.2 c2
      refine j_aload_n o dX12_readAs_17 rfl ?_
      refine j_bipush o (v := 6) dX12_readAs_18 rfl ?_
      refine j_callVv (g := 1) (ci := 12) o (c_X12_readForm l P 6 M N _ h) dX12_readAs_20 jc_X12_203 jn_X12_readForm rfl rfl rfl (fun _ => rfl) rfl rfl (fun M6 Nz7 h => ?_)
      obtain ⟨rfl, h⟩ := h
      refine j_goto o (tgt := 32) dX12_readAs_23 (by decide) ?_
      rw [hE]
      exact j_vret o dX12_readAs_32 ⟨rfl, rfl, rfl, h⟩
  · replace h := h.2 c1
    refine j_aload_n o dX12_readAs_4 rfl ?_
    refine j_iconst o (v := 0) dX12_readAs_5 rfl ?_
    refine j_callVv (g := 1) (ci := 12) o (c_X12_readLaw l P 0 M N _ h) dX12_readAs_6 jc_X12_200 jn_X12_readLaw rfl rfl rfl (fun _ => rfl) rfl rfl (fun M8 Nz9 h => ?_)
    obtain ⟨rfl, h⟩ := h
    refine j_goto o (tgt := 32) dX12_readAs_9 (by decide) ?_
    rw [hE]
    exact j_vret o dX12_readAs_32 ⟨rfl, rfl, rfl, h⟩

abbrev rm_X12_fault : Room := { frames := 46, cells := 0, slots := 0, locals := 1011 }
def w_X12_fault (P : jP) (a1 : Int32) (M : jM) (Q : Int32 → jM → Prop) : Prop :=
  w_X12_isIn P a1 0 2 (fun r1 =>
  (¬ r1 = 0 → (
   w_X12_readAs P a1 (upM M 1 0 0) (fun M5 =>
   Q (M5 1 6) M5)
  )) ∧ (r1 = 0 → (
   Q (-2) (upM M 1 0 0)
  )))
set_option maxRecDepth 20000 in
theorem c_X12_fault (l : Launch) (P : jP) (a1 : Int32) (M : jM) (N : jN) (Q : Int32 → jM → Prop) (h : w_X12_fault P a1 M Q) : jC l yX12_fault cX12_fault 2 (some .int) rm_X12_fault LM [.ref (P.1 1), .int a1] P M N (jqi P (fun r M' N' => N = N' ∧ Q r M' )) := by
  refine jC_of (by decide +kernel) [(0, .ref (P.1 1)), (1, .int a1)] (Nat.le_of_ble_eq_true rfl) rfl (fun X o => ?_)
  obtain ⟨E, hE⟩ : ∃ E, E = jE X rm_X12_fault (jqi P (fun r M' N' => N = N' ∧ Q r M' )) := ⟨_, rfl⟩
  rw [← hE]
  unfold w_X12_fault at h
  refine j_aload_n o dX12_fault_0 rfl ?_
  refine j_iconst o (v := 0) dX12_fault_1 rfl ?_
  refine j_putf o (M1 := upM M 1 0 0) (N1 := N) (g := 1) (slot := 0) (ci := 12) (ty := .int) rfl jin_X12 tyX12_ok nmX12 (by decide) rfl rfl jf_X12_114 (by decide +kernel) rfl rfl (Nat.le_of_ble_eq_true rfl) (fun _ => rfl) (fun _ => rfl) (fun _ hj => upM_ne _ _ _ hj) (fun _ _ => rfl) dX12_fault_2 ?_
  refine j_iload_n o dX12_fault_5 rfl ?_
  refine j_iconst o (v := 0) dX12_fault_6 rfl ?_
  refine j_iconst o (v := 2) dX12_fault_7 rfl ?_
  refine j_callSi o (c_X12_isIn l P a1 0 2 (upM M 1 0 0) N _ h) dX12_fault_8 jc_X12_209 jn_X12_isIn rfl rfl rfl rfl (fun r1 Mz2 Nz3 h => ?_)
  obtain ⟨rfl, rfl, h⟩ := h
  refine j_if_ne o (tgt := 17) dX12_fault_11 (by decide) (fun c4 => ?_) (fun c4 => ?_)
  · replace h := h.1 c4
    refine j_aload_n o dX12_fault_17 rfl ?_
    refine j_iload_n o dX12_fault_18 rfl ?_
    refine j_callVv (g := 1) (ci := 12) o (c_X12_readAs l P a1 (upM M 1 0 0) N _ h) dX12_fault_19 jc_X12_213 jn_X12_readAs rfl rfl rfl (fun _ => rfl) rfl rfl (fun M5 Nz6 h => ?_)
    obtain ⟨rfl, h⟩ := h
    refine j_aload_n o dX12_fault_22 rfl ?_
    refine j_getf o (g := 1) (slot := 6) (ci := 12) (v := .int (M5 1 6)) rfl jin_X12 (by decide) rfl jf_X12_140 (fun _ => rfl) rfl dX12_fault_23 ?_
    rw [hE]
    exact j_iret o dX12_fault_26 ⟨_, rfl, rfl, rfl, h⟩
  · replace h := h.2 c4
    refine j_bipush o (v := (-2)) dX12_fault_14 rfl ?_
    rw [hE]
    exact j_iret o dX12_fault_16 ⟨_, rfl, rfl, rfl, h⟩

abbrev rm_J6_numberOfTrailingZeros_0f7a4 : Room := { frames := 0, cells := 0, slots := 0, locals := 0 }
def w_J6_numberOfTrailingZeros_0f7a4 (P : jP) (a1 : Int32) (Q : Int32 → Prop) : Prop :=
  (0 < ((a1 ^^^ (-1)) &&& (a1 - 1)) → (
   ∀ R34 : Int32 → Int32 → Prop, (∀ (x2 : Int32) (x3 : Int32), (
    ∀ R49 : Int32 → Int32 → Prop, (∀ (x4 : Int32) (x5 : Int32), (
     ∀ R62 : Int32 → Int32 → Prop, (∀ (x6 : Int32) (x7 : Int32), (
      ∀ R74 : Int32 → Int32 → Prop, (∀ (x8 : Int32) (x9 : Int32), (
       Q (x9 + (jushr x8 1))
      ) → R74 x8 x9) →
      (x6 ≤ 4 → (
       R74 x6 x7
      )) ∧ (¬ x6 ≤ 4 → (
       R74 (jushr x6 2) (x7 + 2)
      ))
     ) → R62 x6 x7) →
     (x4 ≤ 16 → (
      R62 x4 x5
     )) ∧ (¬ x4 ≤ 16 → (
      R62 (jushr x4 4) (x5 + 4)
     ))
    ) → R49 x4 x5) →
    (x2 ≤ 256 → (
     R49 x2 x3
    )) ∧ (¬ x2 ≤ 256 → (
     R49 (jushr x2 8) (x3 + 8)
    ))
   ) → R34 x2 x3) →
   (((a1 ^^^ (-1)) &&& (a1 - 1)) ≤ 65536 → (
    R34 ((a1 ^^^ (-1)) &&& (a1 - 1)) 1
   )) ∧ (¬ ((a1 ^^^ (-1)) &&& (a1 - 1)) ≤ 65536 → (
    R34 (jushr ((a1 ^^^ (-1)) &&& (a1 - 1)) 16) (1 + 16)
   ))
  )) ∧ (¬ 0 < ((a1 ^^^ (-1)) &&& (a1 - 1)) → (
   Q (((a1 ^^^ (-1)) &&& (a1 - 1)) &&& 32)
  ))
set_option maxRecDepth 20000 in
theorem c_J6_numberOfTrailingZeros_0f7a4 {L0 : jL} (l : Launch) (P : jP) (a1 : Int32) (M : jM) (N : jN) (Q : Int32 → Prop) (h : w_J6_numberOfTrailingZeros_0f7a4 P a1 Q) : jC l yJ6_numberOfTrailingZeros_0f7a4 cJ6_numberOfTrailingZeros_0f7a4 2 (some .int) rm_J6_numberOfTrailingZeros_0f7a4 L0 [.int a1] P M N (jqi P (fun r M' N' => M = M' ∧ N = N' ∧ Q r )) := by
  refine jC_of (by decide +kernel) [(0, .int a1)] (Nat.le_of_ble_eq_true rfl) rfl (fun X o => ?_)
  obtain ⟨E, hE⟩ : ∃ E, E = jE X rm_J6_numberOfTrailingZeros_0f7a4 (jqi P (fun r M' N' => M = M' ∧ N = N' ∧ Q r )) := ⟨_, rfl⟩
  rw [← hE]
  unfold w_J6_numberOfTrailingZeros_0f7a4 at h
  refine j_iload_n o dJ6_numberOfTrailingZeros_0f7a4_0 rfl ?_
  refine j_iconst o (v := (-1)) dJ6_numberOfTrailingZeros_0f7a4_1 rfl ?_
  refine j_ixor o dJ6_numberOfTrailingZeros_0f7a4_2 ?_
  refine j_iload_n o dJ6_numberOfTrailingZeros_0f7a4_3 rfl ?_
  refine j_iconst o (v := 1) dJ6_numberOfTrailingZeros_0f7a4_4 rfl ?_
  refine j_isub o dJ6_numberOfTrailingZeros_0f7a4_5 ?_
  refine j_iand o dJ6_numberOfTrailingZeros_0f7a4_6 ?_
  refine j_istore_n o [(0, .int ((a1 ^^^ (-1)) &&& (a1 - 1)))] dJ6_numberOfTrailingZeros_0f7a4_7 (by decide) rfl ?_
  refine j_iload_n o dJ6_numberOfTrailingZeros_0f7a4_8 rfl ?_
  refine j_if_gt o (tgt := 17) dJ6_numberOfTrailingZeros_0f7a4_9 (by decide) (fun c1 => ?_) (fun c1 => ?_)
  · replace h := h.1 c1
    refine j_iconst o (v := 1) dJ6_numberOfTrailingZeros_0f7a4_17 rfl ?_
    refine j_istore_n o [(1, .int 1), (0, .int ((a1 ^^^ (-1)) &&& (a1 - 1)))] dJ6_numberOfTrailingZeros_0f7a4_18 (by decide) rfl ?_
    refine j_iload_n o dJ6_numberOfTrailingZeros_0f7a4_19 rfl ?_
    refine j_ldc_w o jk_J6_264 dJ6_numberOfTrailingZeros_0f7a4_20 ?_
    replace h := h (fun (x2 : Int32) (x3 : Int32) => J X P M N 0 0 E 2 34 [(0, .int x2), (1, .int x3)] []) (by
      intro x2 x3 h
      refine j_iload_n o dJ6_numberOfTrailingZeros_0f7a4_34 rfl ?_
      refine j_sipush o (v := 256) dJ6_numberOfTrailingZeros_0f7a4_35 rfl ?_
      replace h := h (fun (x4 : Int32) (x5 : Int32) => J X P M N 0 0 E 2 49 [(0, .int x4), (1, .int x5)] []) (by
        intro x4 x5 h
        refine j_iload_n o dJ6_numberOfTrailingZeros_0f7a4_49 rfl ?_
        refine j_bipush o (v := 16) dJ6_numberOfTrailingZeros_0f7a4_50 rfl ?_
        replace h := h (fun (x6 : Int32) (x7 : Int32) => J X P M N 0 0 E 2 62 [(0, .int x6), (1, .int x7)] []) (by
          intro x6 x7 h
          refine j_iload_n o dJ6_numberOfTrailingZeros_0f7a4_62 rfl ?_
          refine j_iconst o (v := 4) dJ6_numberOfTrailingZeros_0f7a4_63 rfl ?_
          replace h := h (fun (x8 : Int32) (x9 : Int32) => J X P M N 0 0 E 2 74 [(0, .int x8), (1, .int x9)] []) (by
            intro x8 x9 h
            refine j_iload_n o dJ6_numberOfTrailingZeros_0f7a4_74 rfl ?_
            refine j_iload_n o dJ6_numberOfTrailingZeros_0f7a4_75 rfl ?_
            refine j_iconst o (v := 1) dJ6_numberOfTrailingZeros_0f7a4_76 rfl ?_
            refine j_iushr o dJ6_numberOfTrailingZeros_0f7a4_77 ?_
            refine j_iadd o dJ6_numberOfTrailingZeros_0f7a4_78 ?_
            rw [hE]
            exact j_iret o dJ6_numberOfTrailingZeros_0f7a4_79 ⟨_, rfl, rfl, rfl, rfl, h⟩)
          refine j_icmp_le o (tgt := 74) dJ6_numberOfTrailingZeros_0f7a4_64 (by decide) (fun c10 => ?_) (fun c10 => ?_)
          · replace h := h.1 c10
            exact j_pick [0, 1] rfl h
          · replace h := h.2 c10
            refine j_iinc o (v := x7 + 2) [(1, .int (x7 + 2)), (0, .int x6)] dJ6_numberOfTrailingZeros_0f7a4_67 rfl rfl (by decide) rfl ?_
            refine j_iload_n o dJ6_numberOfTrailingZeros_0f7a4_70 rfl ?_
            refine j_iconst o (v := 2) dJ6_numberOfTrailingZeros_0f7a4_71 rfl ?_
            refine j_iushr o dJ6_numberOfTrailingZeros_0f7a4_72 ?_
            refine j_istore_n o [(0, .int (jushr x6 2)), (1, .int (x7 + 2))] dJ6_numberOfTrailingZeros_0f7a4_73 (by decide) rfl ?_
            exact j_pick [0, 1] rfl h)
        refine j_icmp_le o (tgt := 62) dJ6_numberOfTrailingZeros_0f7a4_52 (by decide) (fun c11 => ?_) (fun c11 => ?_)
        · replace h := h.1 c11
          exact j_pick [0, 1] rfl h
        · replace h := h.2 c11
          refine j_iinc o (v := x5 + 4) [(1, .int (x5 + 4)), (0, .int x4)] dJ6_numberOfTrailingZeros_0f7a4_55 rfl rfl (by decide) rfl ?_
          refine j_iload_n o dJ6_numberOfTrailingZeros_0f7a4_58 rfl ?_
          refine j_iconst o (v := 4) dJ6_numberOfTrailingZeros_0f7a4_59 rfl ?_
          refine j_iushr o dJ6_numberOfTrailingZeros_0f7a4_60 ?_
          refine j_istore_n o [(0, .int (jushr x4 4)), (1, .int (x5 + 4))] dJ6_numberOfTrailingZeros_0f7a4_61 (by decide) rfl ?_
          exact j_pick [0, 1] rfl h)
      refine j_icmp_le o (tgt := 49) dJ6_numberOfTrailingZeros_0f7a4_38 (by decide) (fun c12 => ?_) (fun c12 => ?_)
      · replace h := h.1 c12
        exact j_pick [0, 1] rfl h
      · replace h := h.2 c12
        refine j_iinc o (v := x3 + 8) [(1, .int (x3 + 8)), (0, .int x2)] dJ6_numberOfTrailingZeros_0f7a4_41 rfl rfl (by decide) rfl ?_
        refine j_iload_n o dJ6_numberOfTrailingZeros_0f7a4_44 rfl ?_
        refine j_bipush o (v := 8) dJ6_numberOfTrailingZeros_0f7a4_45 rfl ?_
        refine j_iushr o dJ6_numberOfTrailingZeros_0f7a4_47 ?_
        refine j_istore_n o [(0, .int (jushr x2 8)), (1, .int (x3 + 8))] dJ6_numberOfTrailingZeros_0f7a4_48 (by decide) rfl ?_
        exact j_pick [0, 1] rfl h)
    refine j_icmp_le o (tgt := 34) dJ6_numberOfTrailingZeros_0f7a4_23 (by decide) (fun c13 => ?_) (fun c13 => ?_)
    · replace h := h.1 c13
      exact j_pick [1, 0] rfl h
    · replace h := h.2 c13
      refine j_iinc o (v := 1 + 16) [(1, .int (1 + 16)), (0, .int ((a1 ^^^ (-1)) &&& (a1 - 1)))] dJ6_numberOfTrailingZeros_0f7a4_26 rfl rfl (by decide) rfl ?_
      refine j_iload_n o dJ6_numberOfTrailingZeros_0f7a4_29 rfl ?_
      refine j_bipush o (v := 16) dJ6_numberOfTrailingZeros_0f7a4_30 rfl ?_
      refine j_iushr o dJ6_numberOfTrailingZeros_0f7a4_32 ?_
      refine j_istore_n o [(0, .int (jushr ((a1 ^^^ (-1)) &&& (a1 - 1)) 16)), (1, .int (1 + 16))] dJ6_numberOfTrailingZeros_0f7a4_33 (by decide) rfl ?_
      exact j_pick [0, 1] rfl h
  · replace h := h.2 c1
    refine j_iload_n o dJ6_numberOfTrailingZeros_0f7a4_12 rfl ?_
    refine j_bipush o (v := 32) dJ6_numberOfTrailingZeros_0f7a4_13 rfl ?_
    refine j_iand o dJ6_numberOfTrailingZeros_0f7a4_15 ?_
    rw [hE]
    exact j_iret o dJ6_numberOfTrailingZeros_0f7a4_16 ⟨_, rfl, rfl, rfl, rfl, h⟩

abbrev rm_X12_layLaw : Room := { frames := 45, cells := 0, slots := 0, locals := 989 }
def w_X12_layLaw (P : jP)  (M : jM) (Q : jM → Prop) : Prop :=
  ∀ R2 : Int32 → jM → Prop, (∀ (x1 : Int32) (M2 : jM), (
   ((M2 1 2) ≤ x1 → (
    vp_in (M2 1 25) (6) ∧
    ∀ M5 : jM, M5 = upM M2 10 (M2 1 25).toNatClampNeg (M2 1 10) →
    ∀ R95 : Int32 → jM → Prop, (∀ (x6 : Int32) (M7 : jM), (
     ((M7 1 10) ≤ x6 → (
      Q M7
     )) ∧ (¬ (M7 1 10) ≤ x6 → (
      vp_in x6 (12) ∧
      vp_in ((12 * (M7 1 25)) + x6) (72) ∧
      ∀ M11 : jM, M11 = upM M7 11 ((12 * (M7 1 25)) + x6).toNatClampNeg (M7 3 x6.toNatClampNeg) →
      R95 (x6 + 1) M11
     ))
    ) → R95 x6 M7) →
    R95 0 M5
   )) ∧ (¬ (M2 1 2) ≤ x1 → (
    w_X12_readLaw P x1 M2 (fun M12 =>
    w_J6_numberOfTrailingZeros_0f7a4 P (M12 1 11) (fun r14 =>
    vp_in ((512 * (M12 1 25)) + x1) (3072) ∧
    ∀ M18 : jM, M18 = upM M12 9 ((512 * (M12 1 25)) + x1).toNatClampNeg (M12 1 11) →
    ∀ R73 : Int32 → Int32 → Prop, (∀ (x19 : Int32) (x20 : Int32), (
     vp_in x19 (3072) ∧
     R2 (x1 + 1) (upM M18 8 x19.toNatClampNeg x20)
    ) → R73 x19 x20) →
    (¬ (M18 1 11) = 0 → (
     vp_in r14 (12) ∧
     R73 ((512 * (M18 1 25)) + x1) (M18 3 r14.toNatClampNeg)
    )) ∧ ((M18 1 11) = 0 → (
     R73 ((512 * (M18 1 25)) + x1) (-1)
    ))))
   ))
  ) → R2 x1 M2) →
  R2 0 M
set_option maxRecDepth 20000 in
theorem c_X12_layLaw (l : Launch) (P : jP)  (M : jM) (N : jN) (Q : jM → Prop) (h : w_X12_layLaw P M Q) : jC l yX12_layLaw cX12_layLaw 3 none rm_X12_layLaw LM [.ref (P.1 1)] P M N (jqv P (fun M' N' => N = N' ∧ Q M' )) := by
  refine jC_of (by decide +kernel) [(0, .ref (P.1 1))] (Nat.le_of_ble_eq_true rfl) rfl (fun X o => ?_)
  obtain ⟨E, hE⟩ : ∃ E, E = jE X rm_X12_layLaw (jqv P (fun M' N' => N = N' ∧ Q M' )) := ⟨_, rfl⟩
  rw [← hE]
  unfold w_X12_layLaw at h
  refine j_iconst o (v := 0) dX12_layLaw_0 rfl ?_
  refine j_istore_n o [(1, .int 0), (0, .ref (P.1 1))] dX12_layLaw_1 (by decide) rfl ?_
  replace h := h (fun (x1 : Int32) (M2 : jM) => J X P M2 N 0 0 E 3 2 [(0, .ref (P.1 1)), (1, .int x1)] []) (by
    intro x1 M2 h
    refine j_iload_n o dX12_layLaw_2 rfl ?_
    refine j_aload_n o dX12_layLaw_3 rfl ?_
    refine j_getf o (g := 1) (slot := 2) (ci := 12) (v := .int (M2 1 2)) rfl jin_X12 (by decide) rfl jf_X12_111 (fun _ => rfl) rfl dX12_layLaw_4 ?_
    refine j_icmp_ge o (tgt := 80) dX12_layLaw_7 (by decide) (fun c3 => ?_) (fun c3 => ?_)
    · replace h := h.1 c3
      refine j_aload_n o dX12_layLaw_80 rfl ?_
      refine j_getf o (g := 1) (slot := 19) (ci := 12) (v := .ref (P.1 10)) rfl jin_X12 (by decide) rfl jf_X12_35 (fun _ => rfl) rfl dX12_layLaw_81 ?_
      refine j_aload_n o dX12_layLaw_84 rfl ?_
      refine j_getf o (g := 1) (slot := 25) (ci := 12) (v := .int (M2 1 25)) rfl jin_X12 (by decide) rfl jf_X12_216 (fun _ => rfl) rfl dX12_layLaw_85 ?_
      refine j_aload_n o dX12_layLaw_88 rfl ?_
      refine j_getf o (g := 1) (slot := 10) (ci := 12) (v := .int (M2 1 10)) rfl jin_X12 (by decide) rfl jf_X12_185 (fun _ => rfl) rfl dX12_layLaw_89 ?_
      obtain ⟨hb4, h⟩ := h
      refine j_iast o (g := 10) (fun _ _ _ => rfl) hb4 dX12_layLaw_92 ?_
      refine j_nameM (fun M5 hM5 => ?_)
      replace h := h M5 hM5
      refine j_iconst o (v := 0) dX12_layLaw_93 rfl ?_
      refine j_istore_n o [(1, .int 0), (0, .ref (P.1 1))] dX12_layLaw_94 (by decide) rfl ?_
      replace h := h (fun (x6 : Int32) (M7 : jM) => J X P M7 N 0 0 E 3 95 [(0, .ref (P.1 1)), (1, .int x6)] []) (by
        intro x6 M7 h
        refine j_iload_n o dX12_layLaw_95 rfl ?_
        refine j_aload_n o dX12_layLaw_96 rfl ?_
        refine j_getf o (g := 1) (slot := 10) (ci := 12) (v := .int (M7 1 10)) rfl jin_X12 (by decide) rfl jf_X12_185 (fun _ => rfl) rfl dX12_layLaw_97 ?_
        refine j_icmp_ge o (tgt := 129) dX12_layLaw_100 (by decide) (fun c8 => ?_) (fun c8 => ?_)
        · replace h := h.1 c8
          rw [hE]
          exact j_vret o dX12_layLaw_129 ⟨rfl, rfl, rfl, h⟩
        · replace h := h.2 c8
          refine j_aload_n o dX12_layLaw_103 rfl ?_
          refine j_getf o (g := 1) (slot := 20) (ci := 12) (v := .ref (P.1 11)) rfl jin_X12 (by decide) rfl jf_X12_38 (fun _ => rfl) rfl dX12_layLaw_104 ?_
          refine j_bipush o (v := 12) dX12_layLaw_107 rfl ?_
          refine j_aload_n o dX12_layLaw_109 rfl ?_
          refine j_getf o (g := 1) (slot := 25) (ci := 12) (v := .int (M7 1 25)) rfl jin_X12 (by decide) rfl jf_X12_216 (fun _ => rfl) rfl dX12_layLaw_110 ?_
          refine j_imul o dX12_layLaw_113 ?_
          refine j_iload_n o dX12_layLaw_114 rfl ?_
          refine j_iadd o dX12_layLaw_115 ?_
          refine j_aload_n o dX12_layLaw_116 rfl ?_
          refine j_getf o (g := 1) (slot := 9) (ci := 12) (v := .ref (P.1 3)) rfl jin_X12 (by decide) rfl jf_X12_13 (fun _ => rfl) rfl dX12_layLaw_117 ?_
          refine j_iload_n o dX12_layLaw_120 rfl ?_
          obtain ⟨hb9, h⟩ := h
          refine j_iald o (g := 3) (fun _ => rfl) hb9 dX12_layLaw_121 ?_
          obtain ⟨hb10, h⟩ := h
          refine j_iast o (g := 11) (fun _ _ _ => rfl) hb10 dX12_layLaw_122 ?_
          refine j_nameM (fun M11 hM11 => ?_)
          replace h := h M11 hM11
          refine j_iinc o (v := x6 + 1) [(1, .int (x6 + 1)), (0, .ref (P.1 1))] dX12_layLaw_123 rfl rfl (by decide) rfl ?_
          refine j_goto o (tgt := 95) dX12_layLaw_126 (by decide) ?_
          exact j_pick [1, 0] rfl h)
      exact j_pick [1, 0] rfl h
    · replace h := h.2 c3
      refine j_aload_n o dX12_layLaw_10 rfl ?_
      refine j_iload_n o dX12_layLaw_11 rfl ?_
      refine j_callVv (g := 1) (ci := 12) o (c_X12_readLaw l P x1 M2 N _ h) dX12_layLaw_12 jc_X12_200 jn_X12_readLaw rfl rfl rfl (fun _ => rfl) rfl rfl (fun M12 Nz13 h => ?_)
      obtain ⟨rfl, h⟩ := h
      refine j_aload_n o dX12_layLaw_15 rfl ?_
      refine j_getf o (g := 1) (slot := 11) (ci := 12) (v := .int (M12 1 11)) rfl jin_X12 (by decide) rfl jf_X12_188 (fun _ => rfl) rfl dX12_layLaw_16 ?_
      refine j_callSi o (c_J6_numberOfTrailingZeros_0f7a4 l P (M12 1 11) M12 N _ h) dX12_layLaw_19 jc_X12_230 jn_J6_numberOfTrailingZeros_0f7a4 rfl rfl rfl rfl (fun r14 Mz15 Nz16 h => ?_)
      obtain ⟨rfl, rfl, h⟩ := h
      refine j_istore_n o [(2, .int r14), (0, .ref (P.1 1)), (1, .int x1)] dX12_layLaw_22 (by decide) rfl ?_
      refine j_aload_n o dX12_layLaw_23 rfl ?_
      refine j_getf o (g := 1) (slot := 18) (ci := 12) (v := .ref (P.1 9)) rfl jin_X12 (by decide) rfl jf_X12_32 (fun _ => rfl) rfl dX12_layLaw_24 ?_
      refine j_sipush o (v := 512) dX12_layLaw_27 rfl ?_
      refine j_aload_n o dX12_layLaw_30 rfl ?_
      refine j_getf o (g := 1) (slot := 25) (ci := 12) (v := .int (M12 1 25)) rfl jin_X12 (by decide) rfl jf_X12_216 (fun _ => rfl) rfl dX12_layLaw_31 ?_
      refine j_imul o dX12_layLaw_34 ?_
      refine j_iload_n o dX12_layLaw_35 rfl ?_
      refine j_iadd o dX12_layLaw_36 ?_
      refine j_aload_n o dX12_layLaw_37 rfl ?_
      refine j_getf o (g := 1) (slot := 11) (ci := 12) (v := .int (M12 1 11)) rfl jin_X12 (by decide) rfl jf_X12_188 (fun _ => rfl) rfl dX12_layLaw_38 ?_
      obtain ⟨hb17, h⟩ := h
      refine j_iast o (g := 9) (fun _ _ _ => rfl) hb17 dX12_layLaw_41 ?_
      refine j_nameM (fun M18 hM18 => ?_)
      replace h := h M18 hM18
      refine j_aload_n o dX12_layLaw_42 rfl ?_
      refine j_getf o (g := 1) (slot := 17) (ci := 12) (v := .ref (P.1 8)) rfl jin_X12 (by decide) rfl jf_X12_29 (fun _ => rfl) rfl dX12_layLaw_43 ?_
      refine j_sipush o (v := 512) dX12_layLaw_46 rfl ?_
      refine j_aload_n o dX12_layLaw_49 rfl ?_
      refine j_getf o (g := 1) (slot := 25) (ci := 12) (v := .int (M18 1 25)) rfl jin_X12 (by decide) rfl jf_X12_216 (fun _ => rfl) rfl dX12_layLaw_50 ?_
      refine j_imul o dX12_layLaw_53 ?_
      refine j_iload_n o dX12_layLaw_54 rfl ?_
      refine j_iadd o dX12_layLaw_55 ?_
      refine j_aload_n o dX12_layLaw_56 rfl ?_
      refine j_getf o (g := 1) (slot := 11) (ci := 12) (v := .int (M18 1 11)) rfl jin_X12 (by decide) rfl jf_X12_188 (fun _ => rfl) rfl dX12_layLaw_57 ?_
      replace h := h (fun (x19 : Int32) (x20 : Int32) => J X P M18 N 0 0 E 3 73 [(0, .ref (P.1 1)), (1, .int x1)] [.int x20, .int x19, .ref (P.1 8)]) (by
        intro x19 x20 h
        obtain ⟨hb21, h⟩ := h
        refine j_iast o (g := 8) (fun _ _ _ => rfl) hb21 dX12_layLaw_73 ?_
        refine j_iinc o (v := x1 + 1) [(1, .int (x1 + 1)), (0, .ref (P.1 1))] dX12_layLaw_74 rfl rfl (by decide) rfl ?_
        refine j_goto o (tgt := 2) dX12_layLaw_77 (by decide) ?_
        exact j_pick [1, 0] rfl h)
      refine j_if_ne o (tgt := 67) dX12_layLaw_60 (by decide) (fun c22 => ?_) (fun c22 => ?_)
      · replace h := h.1 c22
        refine j_aload_n o dX12_layLaw_67 rfl ?_
        refine j_getf o (g := 1) (slot := 9) (ci := 12) (v := .ref (P.1 3)) rfl jin_X12 (by decide) rfl jf_X12_13 (fun _ => rfl) rfl dX12_layLaw_68 ?_
        refine j_iload_n o dX12_layLaw_71 rfl ?_
        obtain ⟨hb23, h⟩ := h
        refine j_iald o (g := 3) (fun _ => rfl) hb23 dX12_layLaw_72 ?_
        exact j_pick [1, 2] rfl h
      · replace h := h.2 c22
        refine j_iconst o (v := (-1)) dX12_layLaw_63 rfl ?_
        refine j_goto o (tgt := 73) dX12_layLaw_64 (by decide) ?_
        exact j_pick [1, 2] rfl h)
  exact j_pick [1, 0] rfl h

abbrev rm_X12_text : Room := { frames := 47, cells := 0, slots := 0, locals := 1032 }
def w_X12_text (P : jP) (a1 : Int32) (M : jM) (Q : Int32 → jM → Prop) : Prop :=
  w_X12_isIn P a1 0 2 (fun r1 =>
  (r1 = 0 → (
   Q (-1) (upM M 1 0 0)
  )) ∧ (¬ r1 = 0 → (
   ∀ R27 : Prop, ((
    ∀ R41 : Prop, ((
     ∀ R55 : Prop, ((
      w_X12_fault P a1 (upM M 1 0 0) (fun r5 M6 =>
      (r5 = (-1) → (
       ∀ R74 : jM → Prop, (∀ (M9 : jM), (
        ∀ R115 : jM → Prop, (∀ (M10 : jM), (
         ∀ R128 : jM → Prop, (∀ (M11 : jM), (
          (¬ a1 = 0 → (
           (¬ a1 = 1 → (
            ∀ M14 : jM, M14 = upM (upM M11 1 4 0) 1 27 (((upM M11 1 4 0) 1 27) + 1) →
            Q ((M14 1 27) - 1) M14
           )) ∧ (a1 = 1 → (
            ∀ M15 : jM, M15 = upM (upM M11 1 4 0) 1 26 (((upM M11 1 4 0) 1 26) + 1) →
            Q ((M15 1 26) - 1) M15
           ))
          )) ∧ (a1 = 0 → (
           ∀ M16 : jM, M16 = upM (upM M11 1 4 0) 1 25 (((upM M11 1 4 0) 1 25) + 1) →
           Q ((M16 1 25) - 1) M16
          ))
         ) → R128 M11) →
         (¬ a1 = 2 → (
          R128 M10
         )) ∧ (a1 = 2 → (
          w_X12_readForm P (M10 1 27) M10 (fun M18 =>
          R128 M18)
         ))
        ) → R115 M10) →
        (¬ a1 = 1 → (
         R115 M9
        )) ∧ (a1 = 1 → (
         ∀ R81 : Int32 → jM → Prop, (∀ (x21 : Int32) (M22 : jM), (
          ((M22 1 2) ≤ x21 → (
           R115 M22
          )) ∧ (¬ (M22 1 2) ≤ x21 → (
           w_X12_readQuestion P x21 M22 (fun r24 M25 =>
           vp_in ((512 * (M22 1 26)) + x21) (5120) ∧
           jb r24 ∧
           ∀ M29 : jM, M29 = upM M25 14 ((512 * (M22 1 26)) + x21).toNatClampNeg r24 →
           R81 (x21 + 1) M29)
          ))
         ) → R81 x21 M22) →
         R81 0 M9
        ))
       ) → R74 M9) →
       (¬ a1 = 0 → (
        R74 M6
       )) ∧ (a1 = 0 → (
        w_X12_layLaw P M6 (fun M31 =>
        R74 M31)
       ))
      )) ∧ (¬ r5 = (-1) → (
       Q (-1) M6
      )))
     ) → R55) →
     (¬ a1 = 2 → (
      R55
     )) ∧ (a1 = 2 → (
      (((upM M 1 0 0) 1 27) = 6 → (
       Q (-1) (upM M 1 0 0)
      )) ∧ (¬ ((upM M 1 0 0) 1 27) = 6 → (
       R55
      ))
     ))
    ) → R41) →
    (¬ a1 = 1 → (
     R41
    )) ∧ (a1 = 1 → (
     (((upM M 1 0 0) 1 26) = 10 → (
      Q (-1) (upM M 1 0 0)
     )) ∧ (¬ ((upM M 1 0 0) 1 26) = 10 → (
      R41
     ))
    ))
   ) → R27) →
   (¬ a1 = 0 → (
    R27
   )) ∧ (a1 = 0 → (
    (((upM M 1 0 0) 1 25) = 6 → (
     Q (-1) (upM M 1 0 0)
    )) ∧ (¬ ((upM M 1 0 0) 1 25) = 6 → (
     R27
    ))
   ))
  )))
set_option maxRecDepth 20000 in
theorem c_X12_text (l : Launch) (P : jP) (a1 : Int32) (M : jM) (N : jN) (Q : Int32 → jM → Prop) (h : w_X12_text P a1 M Q) : jC l yX12_text cX12_text 3 (some .int) rm_X12_text LM [.ref (P.1 1), .int a1] P M N (jqi P (fun r M' N' => N = N' ∧ Q r M' )) := by
  refine jC_of (by decide +kernel) [(0, .ref (P.1 1)), (1, .int a1)] (Nat.le_of_ble_eq_true rfl) rfl (fun X o => ?_)
  obtain ⟨E, hE⟩ : ∃ E, E = jE X rm_X12_text (jqi P (fun r M' N' => N = N' ∧ Q r M' )) := ⟨_, rfl⟩
  rw [← hE]
  unfold w_X12_text at h
  refine j_aload_n o dX12_text_0 rfl ?_
  refine j_iconst o (v := 0) dX12_text_1 rfl ?_
  refine j_putf o (M1 := upM M 1 0 0) (N1 := N) (g := 1) (slot := 0) (ci := 12) (ty := .int) rfl jin_X12 tyX12_ok nmX12 (by decide) rfl rfl jf_X12_114 (by decide +kernel) rfl rfl (Nat.le_of_ble_eq_true rfl) (fun _ => rfl) (fun _ => rfl) (fun _ hj => upM_ne _ _ _ hj) (fun _ _ => rfl) dX12_text_2 ?_
  refine j_iload_n o dX12_text_5 rfl ?_
  refine j_iconst o (v := 0) dX12_text_6 rfl ?_
  refine j_iconst o (v := 2) dX12_text_7 rfl ?_
  refine j_callSi o (c_X12_isIn l P a1 0 2 (upM M 1 0 0) N _ h) dX12_text_8 jc_X12_209 jn_X12_isIn rfl rfl rfl rfl (fun r1 Mz2 Nz3 h => ?_)
  obtain ⟨rfl, rfl, h⟩ := h
  refine j_if_eq o (tgt := 64) dX12_text_11 (by decide) (fun c4 => ?_) (fun c4 => ?_)
  · replace h := h.1 c4
    refine j_iconst o (v := (-1)) dX12_text_64 rfl ?_
    rw [hE]
    exact j_iret o dX12_text_65 ⟨_, rfl, rfl, rfl, h⟩
  · replace h := h.2 c4
    refine j_iload_n o dX12_text_14 rfl ?_
    replace h := h (J X P (upM M 1 0 0) N 0 0 E 3 27 [(0, .ref (P.1 1)), (1, .int a1)] []) (by
      intro h
      refine j_iload_n o dX12_text_27 rfl ?_
      refine j_iconst o (v := 1) dX12_text_28 rfl ?_
      replace h := h (J X P (upM M 1 0 0) N 0 0 E 3 41 [(0, .ref (P.1 1)), (1, .int a1)] []) (by
        intro h
        refine j_iload_n o dX12_text_41 rfl ?_
        refine j_iconst o (v := 2) dX12_text_42 rfl ?_
        replace h := h (J X P (upM M 1 0 0) N 0 0 E 3 55 [(0, .ref (P.1 1)), (1, .int a1)] []) (by
          intro h
          refine j_aload_n o dX12_text_55 rfl ?_
          refine j_iload_n o dX12_text_56 rfl ?_
          refine j_callVi (g := 1) (ci := 12) o (c_X12_fault l P a1 (upM M 1 0 0) N _ h) dX12_text_57 jc_X12_225 jn_X12_fault rfl rfl rfl (fun _ => rfl) rfl rfl (fun r5 M6 Nz7 h => ?_)
          obtain ⟨rfl, h⟩ := h
          refine j_iconst o (v := (-1)) dX12_text_60 rfl ?_
          refine j_icmp_eq o (tgt := 66) dX12_text_61 (by decide) (fun c8 => ?_) (fun c8 => ?_)
          · replace h := h.1 c8
            refine j_iload_n o dX12_text_66 rfl ?_
            replace h := h (fun (M9 : jM) => J X P M9 N 0 0 E 3 74 [(0, .ref (P.1 1)), (1, .int a1)] []) (by
              intro M9 h
              refine j_iload_n o dX12_text_74 rfl ?_
              refine j_iconst o (v := 1) dX12_text_75 rfl ?_
              replace h := h (fun (M10 : jM) => J X P M10 N 0 0 E 3 115 [(0, .ref (P.1 1)), (1, .int a1)] []) (by
                intro M10 h
                refine j_iload_n o dX12_text_115 rfl ?_
                refine j_iconst o (v := 2) dX12_text_116 rfl ?_
                replace h := h (fun (M11 : jM) => J X P M11 N 0 0 E 3 128 [(0, .ref (P.1 1)), (1, .int a1)] []) (by
                  intro M11 h
                  refine j_aload_n o dX12_text_128 rfl ?_
                  refine j_iconst o (v := 0) dX12_text_129 rfl ?_
                  refine j_putf o (M1 := upM M11 1 4 0) (N1 := N) (g := 1) (slot := 4) (ci := 12) (ty := .int) rfl jin_X12 tyX12_ok nmX12 (by decide) rfl rfl jf_X12_123 (by decide +kernel) rfl rfl (Nat.le_of_ble_eq_true rfl) (fun _ => rfl) (fun _ => rfl) (fun _ hj => upM_ne _ _ _ hj) (fun _ _ => rfl) dX12_text_130 ?_
                  refine j_iload_n o dX12_text_133 rfl ?_
                  refine j_if_ne o (tgt := 154) dX12_text_134 (by decide) (fun c12 => ?_) (fun c12 => ?_)
                  · replace h := h.1 c12
                    refine j_iload_n o dX12_text_154 rfl ?_
                    refine j_iconst o (v := 1) dX12_text_155 rfl ?_
                    refine j_icmp_ne o (tgt := 176) dX12_text_156 (by decide) (fun c13 => ?_) (fun c13 => ?_)
                    · replace h := h.1 c13
                      refine j_aload_n o dX12_text_176 rfl ?_
                      refine j_dup o dX12_text_177 rfl ?_
                      refine j_getf o (g := 1) (slot := 27) (ci := 12) (v := .int ((upM M11 1 4 0) 1 27)) rfl jin_X12 (by decide) rfl jf_X12_222 (fun _ => rfl) rfl dX12_text_178 ?_
                      refine j_iconst o (v := 1) dX12_text_181 rfl ?_
                      refine j_iadd o dX12_text_182 ?_
                      refine j_putf o (M1 := upM (upM M11 1 4 0) 1 27 (((upM M11 1 4 0) 1 27) + 1)) (N1 := N) (g := 1) (slot := 27) (ci := 12) (ty := .int) rfl jin_X12 tyX12_ok nmX12 (by decide) rfl rfl jf_X12_222 (by decide +kernel) rfl rfl (Nat.le_of_ble_eq_true rfl) (fun _ => rfl) (fun _ => rfl) (fun _ hj => upM_ne _ _ _ hj) (fun _ _ => rfl) dX12_text_183 ?_
                      refine j_nameM (fun M14 hM14 => ?_)
                      replace h := h M14 hM14
                      refine j_aload_n o dX12_text_186 rfl ?_
                      refine j_getf o (g := 1) (slot := 27) (ci := 12) (v := .int (M14 1 27)) rfl jin_X12 (by decide) rfl jf_X12_222 (fun _ => rfl) rfl dX12_text_187 ?_
                      refine j_iconst o (v := 1) dX12_text_190 rfl ?_
                      refine j_isub o dX12_text_191 ?_
                      rw [hE]
                      exact j_iret o dX12_text_192 ⟨_, rfl, rfl, rfl, h⟩
                    · replace h := h.2 c13
                      refine j_aload_n o dX12_text_159 rfl ?_
                      refine j_dup o dX12_text_160 rfl ?_
                      refine j_getf o (g := 1) (slot := 26) (ci := 12) (v := .int ((upM M11 1 4 0) 1 26)) rfl jin_X12 (by decide) rfl jf_X12_219 (fun _ => rfl) rfl dX12_text_161 ?_
                      refine j_iconst o (v := 1) dX12_text_164 rfl ?_
                      refine j_iadd o dX12_text_165 ?_
                      refine j_putf o (M1 := upM (upM M11 1 4 0) 1 26 (((upM M11 1 4 0) 1 26) + 1)) (N1 := N) (g := 1) (slot := 26) (ci := 12) (ty := .int) rfl jin_X12 tyX12_ok nmX12 (by decide) rfl rfl jf_X12_219 (by decide +kernel) rfl rfl (Nat.le_of_ble_eq_true rfl) (fun _ => rfl) (fun _ => rfl) (fun _ hj => upM_ne _ _ _ hj) (fun _ _ => rfl) dX12_text_166 ?_
                      refine j_nameM (fun M15 hM15 => ?_)
                      replace h := h M15 hM15
                      refine j_aload_n o dX12_text_169 rfl ?_
                      refine j_getf o (g := 1) (slot := 26) (ci := 12) (v := .int (M15 1 26)) rfl jin_X12 (by decide) rfl jf_X12_219 (fun _ => rfl) rfl dX12_text_170 ?_
                      refine j_iconst o (v := 1) dX12_text_173 rfl ?_
                      refine j_isub o dX12_text_174 ?_
                      rw [hE]
                      exact j_iret o dX12_text_175 ⟨_, rfl, rfl, rfl, h⟩
                  · replace h := h.2 c12
                    refine j_aload_n o dX12_text_137 rfl ?_
                    refine j_dup o dX12_text_138 rfl ?_
                    refine j_getf o (g := 1) (slot := 25) (ci := 12) (v := .int ((upM M11 1 4 0) 1 25)) rfl jin_X12 (by decide) rfl jf_X12_216 (fun _ => rfl) rfl dX12_text_139 ?_
                    refine j_iconst o (v := 1) dX12_text_142 rfl ?_
                    refine j_iadd o dX12_text_143 ?_
                    refine j_putf o (M1 := upM (upM M11 1 4 0) 1 25 (((upM M11 1 4 0) 1 25) + 1)) (N1 := N) (g := 1) (slot := 25) (ci := 12) (ty := .int) rfl jin_X12 tyX12_ok nmX12 (by decide) rfl rfl jf_X12_216 (by decide +kernel) rfl rfl (Nat.le_of_ble_eq_true rfl) (fun _ => rfl) (fun _ => rfl) (fun _ hj => upM_ne _ _ _ hj) (fun _ _ => rfl) dX12_text_144 ?_
                    refine j_nameM (fun M16 hM16 => ?_)
                    replace h := h M16 hM16
                    refine j_aload_n o dX12_text_147 rfl ?_
                    refine j_getf o (g := 1) (slot := 25) (ci := 12) (v := .int (M16 1 25)) rfl jin_X12 (by decide) rfl jf_X12_216 (fun _ => rfl) rfl dX12_text_148 ?_
                    refine j_iconst o (v := 1) dX12_text_151 rfl ?_
                    refine j_isub o dX12_text_152 ?_
                    rw [hE]
                    exact j_iret o dX12_text_153 ⟨_, rfl, rfl, rfl, h⟩)
                refine j_icmp_ne o (tgt := 128) dX12_text_117 (by decide) (fun c17 => ?_) (fun c17 => ?_)
                · replace h := h.1 c17
                  exact j_pick [0, 1] rfl h
                · replace h := h.2 c17
                  refine j_aload_n o dX12_text_120 rfl ?_
                  refine j_aload_n o dX12_text_121 rfl ?_
                  refine j_getf o (g := 1) (slot := 27) (ci := 12) (v := .int (M10 1 27)) rfl jin_X12 (by decide) rfl jf_X12_222 (fun _ => rfl) rfl dX12_text_122 ?_
                  refine j_callVv (g := 1) (ci := 12) o (c_X12_readForm l P (M10 1 27) M10 N _ h) dX12_text_125 jc_X12_203 jn_X12_readForm rfl rfl rfl (fun _ => rfl) rfl rfl (fun M18 Nz19 h => ?_)
                  obtain ⟨rfl, h⟩ := h
                  exact j_pick [0, 1] rfl h)
              refine j_icmp_ne o (tgt := 115) dX12_text_76 (by decide) (fun c20 => ?_) (fun c20 => ?_)
              · replace h := h.1 c20
                exact j_pick [0, 1] rfl h
              · replace h := h.2 c20
                refine j_iconst o (v := 0) dX12_text_79 rfl ?_
                refine j_istore_n o [(2, .int 0), (0, .ref (P.1 1)), (1, .int a1)] dX12_text_80 (by decide) rfl ?_
                replace h := h (fun (x21 : Int32) (M22 : jM) => J X P M22 N 0 0 E 3 81 [(0, .ref (P.1 1)), (1, .int a1), (2, .int x21)] []) (by
                  intro x21 M22 h
                  refine j_iload_n o dX12_text_81 rfl ?_
                  refine j_aload_n o dX12_text_82 rfl ?_
                  refine j_getf o (g := 1) (slot := 2) (ci := 12) (v := .int (M22 1 2)) rfl jin_X12 (by decide) rfl jf_X12_111 (fun _ => rfl) rfl dX12_text_83 ?_
                  refine j_icmp_ge o (tgt := 115) dX12_text_86 (by decide) (fun c23 => ?_) (fun c23 => ?_)
                  · replace h := h.1 c23
                    exact j_pick [0, 1] rfl h
                  · replace h := h.2 c23
                    refine j_aload_n o dX12_text_89 rfl ?_
                    refine j_getf o (g := 1) (slot := 23) (ci := 12) (v := .ref (P.1 14)) rfl jin_X12 (by decide) rfl jf_X12_47 (fun _ => rfl) rfl dX12_text_90 ?_
                    refine j_sipush o (v := 512) dX12_text_93 rfl ?_
                    refine j_aload_n o dX12_text_96 rfl ?_
                    refine j_getf o (g := 1) (slot := 26) (ci := 12) (v := .int (M22 1 26)) rfl jin_X12 (by decide) rfl jf_X12_219 (fun _ => rfl) rfl dX12_text_97 ?_
                    refine j_imul o dX12_text_100 ?_
                    refine j_iload_n o dX12_text_101 rfl ?_
                    refine j_iadd o dX12_text_102 ?_
                    refine j_aload_n o dX12_text_103 rfl ?_
                    refine j_iload_n o dX12_text_104 rfl ?_
                    refine j_callVi (g := 1) (ci := 12) o (c_X12_readQuestion l P x21 M22 N _ h) dX12_text_105 jc_X12_206 jn_X12_readQuestion rfl rfl rfl (fun _ => rfl) rfl rfl (fun r24 M25 Nz26 h => ?_)
                    obtain ⟨rfl, h⟩ := h
                    obtain ⟨hb27, h⟩ := h
                    obtain ⟨hz28, h⟩ := h
                    refine j_zast o (g := 14) (fun _ _ _ => rfl) hb27 hz28.1 dX12_text_108 ?_
                    refine j_nameM (fun M29 hM29 => ?_)
                    replace h := h M29 hM29
                    refine j_iinc o (v := x21 + 1) [(2, .int (x21 + 1)), (0, .ref (P.1 1)), (1, .int a1)] dX12_text_109 rfl rfl (by decide) rfl ?_
                    refine j_goto o (tgt := 81) dX12_text_112 (by decide) ?_
                    exact j_pick [1, 2, 0] rfl h)
                exact j_pick [1, 2, 0] rfl h)
            refine j_if_ne o (tgt := 74) dX12_text_67 (by decide) (fun c30 => ?_) (fun c30 => ?_)
            · replace h := h.1 c30
              exact j_pick [0, 1] rfl h
            · replace h := h.2 c30
              refine j_aload_n o dX12_text_70 rfl ?_
              refine j_callVv (g := 1) (ci := 12) o (c_X12_layLaw l P M6 N _ h) dX12_text_71 jc_X12_227 jn_X12_layLaw rfl rfl rfl (fun _ => rfl) rfl rfl (fun M31 Nz32 h => ?_)
              obtain ⟨rfl, h⟩ := h
              exact j_pick [0, 1] rfl h
          · replace h := h.2 c8
            refine j_iconst o (v := (-1)) dX12_text_64 rfl ?_
            rw [hE]
            exact j_iret o dX12_text_65 ⟨_, rfl, rfl, rfl, h⟩)
        refine j_icmp_ne o (tgt := 55) dX12_text_43 (by decide) (fun c33 => ?_) (fun c33 => ?_)
        · replace h := h.1 c33
          exact j_pick [0, 1] rfl h
        · replace h := h.2 c33
          refine j_aload_n o dX12_text_46 rfl ?_
          refine j_getf o (g := 1) (slot := 27) (ci := 12) (v := .int ((upM M 1 0 0) 1 27)) rfl jin_X12 (by decide) rfl jf_X12_222 (fun _ => rfl) rfl dX12_text_47 ?_
          refine j_bipush o (v := 6) dX12_text_50 rfl ?_
          refine j_icmp_eq o (tgt := 64) dX12_text_52 (by decide) (fun c34 => ?_) (fun c34 => ?_)
          · replace h := h.1 c34
            refine j_iconst o (v := (-1)) dX12_text_64 rfl ?_
            rw [hE]
            exact j_iret o dX12_text_65 ⟨_, rfl, rfl, rfl, h⟩
          · replace h := h.2 c34
            exact j_pick [0, 1] rfl h)
      refine j_icmp_ne o (tgt := 41) dX12_text_29 (by decide) (fun c35 => ?_) (fun c35 => ?_)
      · replace h := h.1 c35
        exact j_pick [0, 1] rfl h
      · replace h := h.2 c35
        refine j_aload_n o dX12_text_32 rfl ?_
        refine j_getf o (g := 1) (slot := 26) (ci := 12) (v := .int ((upM M 1 0 0) 1 26)) rfl jin_X12 (by decide) rfl jf_X12_219 (fun _ => rfl) rfl dX12_text_33 ?_
        refine j_bipush o (v := 10) dX12_text_36 rfl ?_
        refine j_icmp_eq o (tgt := 64) dX12_text_38 (by decide) (fun c36 => ?_) (fun c36 => ?_)
        · replace h := h.1 c36
          refine j_iconst o (v := (-1)) dX12_text_64 rfl ?_
          rw [hE]
          exact j_iret o dX12_text_65 ⟨_, rfl, rfl, rfl, h⟩
        · replace h := h.2 c36
          exact j_pick [0, 1] rfl h)
    refine j_if_ne o (tgt := 27) dX12_text_15 (by decide) (fun c37 => ?_) (fun c37 => ?_)
    · replace h := h.1 c37
      exact j_pick [0, 1] rfl h
    · replace h := h.2 c37
      refine j_aload_n o dX12_text_18 rfl ?_
      refine j_getf o (g := 1) (slot := 25) (ci := 12) (v := .int ((upM M 1 0 0) 1 25)) rfl jin_X12 (by decide) rfl jf_X12_216 (fun _ => rfl) rfl dX12_text_19 ?_
      refine j_bipush o (v := 6) dX12_text_22 rfl ?_
      refine j_icmp_eq o (tgt := 64) dX12_text_24 (by decide) (fun c38 => ?_) (fun c38 => ?_)
      · replace h := h.1 c38
        refine j_iconst o (v := (-1)) dX12_text_64 rfl ?_
        rw [hE]
        exact j_iret o dX12_text_65 ⟨_, rfl, rfl, rfl, h⟩
      · replace h := h.2 c38
        exact j_pick [0, 1] rfl h

abbrev rm_X12_isLaw : Room := { frames := 0, cells := 0, slots := 0, locals := 0 }
def w_X12_isLaw (P : jP) (a1 : Int32) (M : jM) (Q : Int32 → Prop) : Prop :=
  (a1 < 0 → (
   Q 0
  )) ∧ (¬ a1 < 0 → (
   ((M 1 25) ≤ a1 → (
    Q 0
   )) ∧ (¬ (M 1 25) ≤ a1 → (
    Q 1
   ))
  ))
set_option maxRecDepth 20000 in
theorem c_X12_isLaw (l : Launch) (P : jP) (a1 : Int32) (M : jM) (N : jN) (Q : Int32 → Prop) (h : w_X12_isLaw P a1 M Q) : jC l yX12_isLaw cX12_isLaw 2 (some .boolean) rm_X12_isLaw LM [.ref (P.1 1), .int a1] P M N (jqi P (fun r M' N' => M = M' ∧ N = N' ∧ Q r )) := by
  refine jC_of (by decide +kernel) [(0, .ref (P.1 1)), (1, .int a1)] (Nat.le_of_ble_eq_true rfl) rfl (fun X o => ?_)
  obtain ⟨E, hE⟩ : ∃ E, E = jE X rm_X12_isLaw (jqi P (fun r M' N' => M = M' ∧ N = N' ∧ Q r )) := ⟨_, rfl⟩
  rw [← hE]
  unfold w_X12_isLaw at h
  refine j_iload_n o dX12_isLaw_0 rfl ?_
  refine j_if_lt o (tgt := 16) dX12_isLaw_1 (by decide) (fun c1 => ?_) (fun c1 => ?_)
  · replace h := h.1 c1
    refine j_iconst o (v := 0) dX12_isLaw_16 rfl ?_
    rw [hE]
    exact j_zret o rfl dX12_isLaw_17 ⟨_, rfl, rfl, rfl, rfl, h⟩
  · replace h := h.2 c1
    refine j_iload_n o dX12_isLaw_4 rfl ?_
    refine j_aload_n o dX12_isLaw_5 rfl ?_
    refine j_getf o (g := 1) (slot := 25) (ci := 12) (v := .int (M 1 25)) rfl jin_X12 (by decide) rfl jf_X12_216 (fun _ => rfl) rfl dX12_isLaw_6 ?_
    refine j_icmp_ge o (tgt := 16) dX12_isLaw_9 (by decide) (fun c2 => ?_) (fun c2 => ?_)
    · replace h := h.1 c2
      refine j_iconst o (v := 0) dX12_isLaw_16 rfl ?_
      rw [hE]
      exact j_zret o rfl dX12_isLaw_17 ⟨_, rfl, rfl, rfl, rfl, h⟩
    · replace h := h.2 c2
      refine j_iconst o (v := 1) dX12_isLaw_12 rfl ?_
      refine j_goto o (tgt := 17) dX12_isLaw_13 (by decide) ?_
      rw [hE]
      exact j_zret o rfl dX12_isLaw_17 ⟨_, rfl, rfl, rfl, rfl, h⟩

abbrev rm_X12_isForm : Room := { frames := 0, cells := 0, slots := 0, locals := 0 }
def w_X12_isForm (P : jP) (a1 : Int32) (M : jM) (Q : Int32 → Prop) : Prop :=
  (a1 < 0 → (
   Q 0
  )) ∧ (¬ a1 < 0 → (
   ((M 1 27) ≤ a1 → (
    Q 0
   )) ∧ (¬ (M 1 27) ≤ a1 → (
    Q 1
   ))
  ))
set_option maxRecDepth 20000 in
theorem c_X12_isForm (l : Launch) (P : jP) (a1 : Int32) (M : jM) (N : jN) (Q : Int32 → Prop) (h : w_X12_isForm P a1 M Q) : jC l yX12_isForm cX12_isForm 2 (some .boolean) rm_X12_isForm LM [.ref (P.1 1), .int a1] P M N (jqi P (fun r M' N' => M = M' ∧ N = N' ∧ Q r )) := by
  refine jC_of (by decide +kernel) [(0, .ref (P.1 1)), (1, .int a1)] (Nat.le_of_ble_eq_true rfl) rfl (fun X o => ?_)
  obtain ⟨E, hE⟩ : ∃ E, E = jE X rm_X12_isForm (jqi P (fun r M' N' => M = M' ∧ N = N' ∧ Q r )) := ⟨_, rfl⟩
  rw [← hE]
  unfold w_X12_isForm at h
  refine j_iload_n o dX12_isForm_0 rfl ?_
  refine j_if_lt o (tgt := 16) dX12_isForm_1 (by decide) (fun c1 => ?_) (fun c1 => ?_)
  · replace h := h.1 c1
    refine j_iconst o (v := 0) dX12_isForm_16 rfl ?_
    rw [hE]
    exact j_zret o rfl dX12_isForm_17 ⟨_, rfl, rfl, rfl, rfl, h⟩
  · replace h := h.2 c1
    refine j_iload_n o dX12_isForm_4 rfl ?_
    refine j_aload_n o dX12_isForm_5 rfl ?_
    refine j_getf o (g := 1) (slot := 27) (ci := 12) (v := .int (M 1 27)) rfl jin_X12 (by decide) rfl jf_X12_222 (fun _ => rfl) rfl dX12_isForm_6 ?_
    refine j_icmp_ge o (tgt := 16) dX12_isForm_9 (by decide) (fun c2 => ?_) (fun c2 => ?_)
    · replace h := h.1 c2
      refine j_iconst o (v := 0) dX12_isForm_16 rfl ?_
      rw [hE]
      exact j_zret o rfl dX12_isForm_17 ⟨_, rfl, rfl, rfl, rfl, h⟩
    · replace h := h.2 c2
      refine j_iconst o (v := 1) dX12_isForm_12 rfl ?_
      refine j_goto o (tgt := 17) dX12_isForm_13 (by decide) ?_
      rw [hE]
      exact j_zret o rfl dX12_isForm_17 ⟨_, rfl, rfl, rfl, rfl, h⟩

abbrev rm_X12_isQuestion : Room := { frames := 0, cells := 0, slots := 0, locals := 0 }
def w_X12_isQuestion (P : jP) (a1 : Int32) (M : jM) (Q : Int32 → Prop) : Prop :=
  (a1 < 0 → (
   Q 0
  )) ∧ (¬ a1 < 0 → (
   ((M 1 26) ≤ a1 → (
    Q 0
   )) ∧ (¬ (M 1 26) ≤ a1 → (
    Q 1
   ))
  ))
set_option maxRecDepth 20000 in
theorem c_X12_isQuestion (l : Launch) (P : jP) (a1 : Int32) (M : jM) (N : jN) (Q : Int32 → Prop) (h : w_X12_isQuestion P a1 M Q) : jC l yX12_isQuestion cX12_isQuestion 2 (some .boolean) rm_X12_isQuestion LM [.ref (P.1 1), .int a1] P M N (jqi P (fun r M' N' => M = M' ∧ N = N' ∧ Q r )) := by
  refine jC_of (by decide +kernel) [(0, .ref (P.1 1)), (1, .int a1)] (Nat.le_of_ble_eq_true rfl) rfl (fun X o => ?_)
  obtain ⟨E, hE⟩ : ∃ E, E = jE X rm_X12_isQuestion (jqi P (fun r M' N' => M = M' ∧ N = N' ∧ Q r )) := ⟨_, rfl⟩
  rw [← hE]
  unfold w_X12_isQuestion at h
  refine j_iload_n o dX12_isQuestion_0 rfl ?_
  refine j_if_lt o (tgt := 16) dX12_isQuestion_1 (by decide) (fun c1 => ?_) (fun c1 => ?_)
  · replace h := h.1 c1
    refine j_iconst o (v := 0) dX12_isQuestion_16 rfl ?_
    rw [hE]
    exact j_zret o rfl dX12_isQuestion_17 ⟨_, rfl, rfl, rfl, rfl, h⟩
  · replace h := h.2 c1
    refine j_iload_n o dX12_isQuestion_4 rfl ?_
    refine j_aload_n o dX12_isQuestion_5 rfl ?_
    refine j_getf o (g := 1) (slot := 26) (ci := 12) (v := .int (M 1 26)) rfl jin_X12 (by decide) rfl jf_X12_219 (fun _ => rfl) rfl dX12_isQuestion_6 ?_
    refine j_icmp_ge o (tgt := 16) dX12_isQuestion_9 (by decide) (fun c2 => ?_) (fun c2 => ?_)
    · replace h := h.1 c2
      refine j_iconst o (v := 0) dX12_isQuestion_16 rfl ?_
      rw [hE]
      exact j_zret o rfl dX12_isQuestion_17 ⟨_, rfl, rfl, rfl, rfl, h⟩
    · replace h := h.2 c2
      refine j_iconst o (v := 1) dX12_isQuestion_12 rfl ?_
      refine j_goto o (tgt := 17) dX12_isQuestion_13 (by decide) ?_
      rw [hE]
      exact j_zret o rfl dX12_isQuestion_17 ⟨_, rfl, rfl, rfl, rfl, h⟩

abbrev rm_X12_isCase : Room := { frames := 0, cells := 0, slots := 0, locals := 0 }
def w_X12_isCase (P : jP) (a1 : Int32) (M : jM) (Q : Int32 → Prop) : Prop :=
  (a1 < 0 → (
   Q 0
  )) ∧ (¬ a1 < 0 → (
   ((M 1 2) ≤ a1 → (
    Q 0
   )) ∧ (¬ (M 1 2) ≤ a1 → (
    Q 1
   ))
  ))
set_option maxRecDepth 20000 in
theorem c_X12_isCase (l : Launch) (P : jP) (a1 : Int32) (M : jM) (N : jN) (Q : Int32 → Prop) (h : w_X12_isCase P a1 M Q) : jC l yX12_isCase cX12_isCase 2 (some .boolean) rm_X12_isCase LM [.ref (P.1 1), .int a1] P M N (jqi P (fun r M' N' => M = M' ∧ N = N' ∧ Q r )) := by
  refine jC_of (by decide +kernel) [(0, .ref (P.1 1)), (1, .int a1)] (Nat.le_of_ble_eq_true rfl) rfl (fun X o => ?_)
  obtain ⟨E, hE⟩ : ∃ E, E = jE X rm_X12_isCase (jqi P (fun r M' N' => M = M' ∧ N = N' ∧ Q r )) := ⟨_, rfl⟩
  rw [← hE]
  unfold w_X12_isCase at h
  refine j_iload_n o dX12_isCase_0 rfl ?_
  refine j_if_lt o (tgt := 16) dX12_isCase_1 (by decide) (fun c1 => ?_) (fun c1 => ?_)
  · replace h := h.1 c1
    refine j_iconst o (v := 0) dX12_isCase_16 rfl ?_
    rw [hE]
    exact j_zret o rfl dX12_isCase_17 ⟨_, rfl, rfl, rfl, rfl, h⟩
  · replace h := h.2 c1
    refine j_iload_n o dX12_isCase_4 rfl ?_
    refine j_aload_n o dX12_isCase_5 rfl ?_
    refine j_getf o (g := 1) (slot := 2) (ci := 12) (v := .int (M 1 2)) rfl jin_X12 (by decide) rfl jf_X12_111 (fun _ => rfl) rfl dX12_isCase_6 ?_
    refine j_icmp_ge o (tgt := 16) dX12_isCase_9 (by decide) (fun c2 => ?_) (fun c2 => ?_)
    · replace h := h.1 c2
      refine j_iconst o (v := 0) dX12_isCase_16 rfl ?_
      rw [hE]
      exact j_zret o rfl dX12_isCase_17 ⟨_, rfl, rfl, rfl, rfl, h⟩
    · replace h := h.2 c2
      refine j_iconst o (v := 1) dX12_isCase_12 rfl ?_
      refine j_goto o (tgt := 17) dX12_isCase_13 (by decide) ?_
      rw [hE]
      exact j_zret o rfl dX12_isCase_17 ⟨_, rfl, rfl, rfl, rfl, h⟩

abbrev rm_X12_isFactNumber : Room := { frames := 0, cells := 0, slots := 0, locals := 0 }
def w_X12_isFactNumber (P : jP) (a1 : Int32) (M : jM) (Q : Int32 → Prop) : Prop :=
  (a1 < 0 → (
   Q 0
  )) ∧ (¬ a1 < 0 → (
   ((M 1 1) ≤ a1 → (
    Q 0
   )) ∧ (¬ (M 1 1) ≤ a1 → (
    Q 1
   ))
  ))
set_option maxRecDepth 20000 in
theorem c_X12_isFactNumber (l : Launch) (P : jP) (a1 : Int32) (M : jM) (N : jN) (Q : Int32 → Prop) (h : w_X12_isFactNumber P a1 M Q) : jC l yX12_isFactNumber cX12_isFactNumber 2 (some .boolean) rm_X12_isFactNumber LM [.ref (P.1 1), .int a1] P M N (jqi P (fun r M' N' => M = M' ∧ N = N' ∧ Q r )) := by
  refine jC_of (by decide +kernel) [(0, .ref (P.1 1)), (1, .int a1)] (Nat.le_of_ble_eq_true rfl) rfl (fun X o => ?_)
  obtain ⟨E, hE⟩ : ∃ E, E = jE X rm_X12_isFactNumber (jqi P (fun r M' N' => M = M' ∧ N = N' ∧ Q r )) := ⟨_, rfl⟩
  rw [← hE]
  unfold w_X12_isFactNumber at h
  refine j_iload_n o dX12_isFactNumber_0 rfl ?_
  refine j_if_lt o (tgt := 16) dX12_isFactNumber_1 (by decide) (fun c1 => ?_) (fun c1 => ?_)
  · replace h := h.1 c1
    refine j_iconst o (v := 0) dX12_isFactNumber_16 rfl ?_
    rw [hE]
    exact j_zret o rfl dX12_isFactNumber_17 ⟨_, rfl, rfl, rfl, rfl, h⟩
  · replace h := h.2 c1
    refine j_iload_n o dX12_isFactNumber_4 rfl ?_
    refine j_aload_n o dX12_isFactNumber_5 rfl ?_
    refine j_getf o (g := 1) (slot := 1) (ci := 12) (v := .int (M 1 1)) rfl jin_X12 (by decide) rfl jf_X12_107 (fun _ => rfl) rfl dX12_isFactNumber_6 ?_
    refine j_icmp_ge o (tgt := 16) dX12_isFactNumber_9 (by decide) (fun c2 => ?_) (fun c2 => ?_)
    · replace h := h.1 c2
      refine j_iconst o (v := 0) dX12_isFactNumber_16 rfl ?_
      rw [hE]
      exact j_zret o rfl dX12_isFactNumber_17 ⟨_, rfl, rfl, rfl, rfl, h⟩
    · replace h := h.2 c2
      refine j_iconst o (v := 1) dX12_isFactNumber_12 rfl ?_
      refine j_goto o (tgt := 17) dX12_isFactNumber_13 (by decide) ?_
      rw [hE]
      exact j_zret o rfl dX12_isFactNumber_17 ⟨_, rfl, rfl, rfl, rfl, h⟩

abbrev rm_X12_saidOn : Room := { frames := 0, cells := 0, slots := 0, locals := 0 }
def w_X12_saidOn (P : jP) (a1 : Int32) (a2 : Int32) (M : jM) (Q : Int32 → Prop) : Prop :=
  vp_in ((512 * a1) + a2) (3072) ∧
  Q (M 8 ((512 * a1) + a2).toNatClampNeg)
set_option maxRecDepth 20000 in
theorem c_X12_saidOn (l : Launch) (P : jP) (a1 : Int32) (a2 : Int32) (M : jM) (N : jN) (Q : Int32 → Prop) (h : w_X12_saidOn P a1 a2 M Q) : jC l yX12_saidOn cX12_saidOn 3 (some .int) rm_X12_saidOn LM [.ref (P.1 1), .int a1, .int a2] P M N (jqi P (fun r M' N' => M = M' ∧ N = N' ∧ Q r )) := by
  refine jC_of (by decide +kernel) [(0, .ref (P.1 1)), (1, .int a1), (2, .int a2)] (Nat.le_of_ble_eq_true rfl) rfl (fun X o => ?_)
  obtain ⟨E, hE⟩ : ∃ E, E = jE X rm_X12_saidOn (jqi P (fun r M' N' => M = M' ∧ N = N' ∧ Q r )) := ⟨_, rfl⟩
  rw [← hE]
  unfold w_X12_saidOn at h
  refine j_aload_n o dX12_saidOn_0 rfl ?_
  refine j_getf o (g := 1) (slot := 17) (ci := 12) (v := .ref (P.1 8)) rfl jin_X12 (by decide) rfl jf_X12_29 (fun _ => rfl) rfl dX12_saidOn_1 ?_
  refine j_sipush o (v := 512) dX12_saidOn_4 rfl ?_
  refine j_iload_n o dX12_saidOn_7 rfl ?_
  refine j_imul o dX12_saidOn_8 ?_
  refine j_iload_n o dX12_saidOn_9 rfl ?_
  refine j_iadd o dX12_saidOn_10 ?_
  obtain ⟨hb1, h⟩ := h
  refine j_iald o (g := 8) (fun _ => rfl) hb1 dX12_saidOn_11 ?_
  rw [hE]
  exact j_iret o dX12_saidOn_12 ⟨_, rfl, rfl, rfl, rfl, h⟩

abbrev rm_X12_says : Room := { frames := 1, cells := 0, slots := 0, locals := 22 }
def w_X12_says (P : jP) (a1 : Int32) (a2 : Int32) (M : jM) (Q : Int32 → jM → Prop) : Prop :=
  w_X12_isLaw P a1 M (fun r1 =>
  ∀ R22 : Int32 → Prop, (∀ (x4 : Int32), (
   (((upM M 1 0 x4) 1 0) ≤ 0 → (
    w_X12_saidOn P a1 a2 (upM M 1 0 x4) (fun r6 =>
    Q r6 (upM M 1 0 x4))
   )) ∧ (¬ ((upM M 1 0 x4) 1 0) ≤ 0 → (
    Q 0 (upM M 1 0 x4)
   ))
  ) → R22 x4) →
  (r1 = 0 → (
   R22 1
  )) ∧ (¬ r1 = 0 → (
   w_X12_isCase P a2 M (fun r10 =>
   (r10 = 0 → (
    R22 1
   )) ∧ (¬ r10 = 0 → (
    R22 0
   )))
  )))
set_option maxRecDepth 20000 in
theorem c_X12_says (l : Launch) (P : jP) (a1 : Int32) (a2 : Int32) (M : jM) (N : jN) (Q : Int32 → jM → Prop) (h : w_X12_says P a1 a2 M Q) : jC l yX12_says cX12_says 3 (some .int) rm_X12_says LM [.ref (P.1 1), .int a1, .int a2] P M N (jqi P (fun r M' N' => N = N' ∧ Q r M' )) := by
  refine jC_of (by decide +kernel) [(0, .ref (P.1 1)), (1, .int a1), (2, .int a2)] (Nat.le_of_ble_eq_true rfl) rfl (fun X o => ?_)
  obtain ⟨E, hE⟩ : ∃ E, E = jE X rm_X12_says (jqi P (fun r M' N' => N = N' ∧ Q r M' )) := ⟨_, rfl⟩
  rw [← hE]
  unfold w_X12_says at h
  refine j_aload_n o dX12_says_0 rfl ?_
  refine j_aload_n o dX12_says_1 rfl ?_
  refine j_iload_n o dX12_says_2 rfl ?_
  refine j_callVi (g := 1) (ci := 12) o (c_X12_isLaw l P a1 M N _ h) dX12_says_3 jc_X12_233 jn_X12_isLaw rfl rfl rfl (fun _ => rfl) rfl rfl (fun r1 Mz2 Nz3 h => ?_)
  obtain ⟨rfl, rfl, h⟩ := h
  replace h := h (fun (x4 : Int32) => J X P M N 0 0 E 3 22 [(0, .ref (P.1 1)), (1, .int a1), (2, .int a2)] [.int x4, .ref (P.1 1)]) (by
    intro x4 h
    refine j_putf o (M1 := upM M 1 0 x4) (N1 := N) (g := 1) (slot := 0) (ci := 12) (ty := .int) rfl jin_X12 tyX12_ok nmX12 (by decide) rfl rfl jf_X12_114 (by decide +kernel) rfl rfl (Nat.le_of_ble_eq_true rfl) (fun _ => rfl) (fun _ => rfl) (fun _ hj => upM_ne _ _ _ hj) (fun _ _ => rfl) dX12_says_22 ?_
    refine j_aload_n o dX12_says_25 rfl ?_
    refine j_getf o (g := 1) (slot := 0) (ci := 12) (v := .int ((upM M 1 0 x4) 1 0)) rfl jin_X12 (by decide) rfl jf_X12_114 (fun _ => rfl) rfl dX12_says_26 ?_
    refine j_if_le o (tgt := 36) dX12_says_29 (by decide) (fun c5 => ?_) (fun c5 => ?_)
    · replace h := h.1 c5
      refine j_aload_n o dX12_says_36 rfl ?_
      refine j_iload_n o dX12_says_37 rfl ?_
      refine j_iload_n o dX12_says_38 rfl ?_
      refine j_callVi (g := 1) (ci := 12) o (c_X12_saidOn l P a1 a2 (upM M 1 0 x4) N _ h) dX12_says_39 jc_X12_239 jn_X12_saidOn rfl rfl rfl (fun _ => rfl) rfl rfl (fun r6 Mz7 Nz8 h => ?_)
      obtain ⟨rfl, rfl, h⟩ := h
      rw [hE]
      exact j_iret o dX12_says_42 ⟨_, rfl, rfl, rfl, h⟩
    · replace h := h.2 c5
      refine j_iconst o (v := 0) dX12_says_32 rfl ?_
      refine j_goto o (tgt := 42) dX12_says_33 (by decide) ?_
      rw [hE]
      exact j_iret o dX12_says_42 ⟨_, rfl, rfl, rfl, h⟩)
  refine j_if_eq o (tgt := 21) dX12_says_6 (by decide) (fun c9 => ?_) (fun c9 => ?_)
  · replace h := h.1 c9
    refine j_iconst o (v := 1) dX12_says_21 rfl ?_
    exact j_pick [0, 1, 2] rfl h
  · replace h := h.2 c9
    refine j_aload_n o dX12_says_9 rfl ?_
    refine j_iload_n o dX12_says_10 rfl ?_
    refine j_callVi (g := 1) (ci := 12) o (c_X12_isCase l P a2 M N _ h) dX12_says_11 jc_X12_236 jn_X12_isCase rfl rfl rfl (fun _ => rfl) rfl rfl (fun r10 Mz11 Nz12 h => ?_)
    obtain ⟨rfl, rfl, h⟩ := h
    refine j_if_eq o (tgt := 21) dX12_says_14 (by decide) (fun c13 => ?_) (fun c13 => ?_)
    · replace h := h.1 c13
      refine j_iconst o (v := 1) dX12_says_21 rfl ?_
      exact j_pick [0, 1, 2] rfl h
    · replace h := h.2 c13
      refine j_iconst o (v := 0) dX12_says_17 rfl ?_
      refine j_goto o (tgt := 22) dX12_says_18 (by decide) ?_
      exact j_pick [0, 1, 2] rfl h

abbrev rm_X12_clauses : Room := { frames := 1, cells := 0, slots := 0, locals := 21 }
def w_X12_clauses (P : jP) (a1 : Int32) (a2 : Int32) (M : jM) (Q : Int32 → jM → Prop) : Prop :=
  w_X12_isLaw P a1 (upM M 1 0 0) (fun r1 =>
  (r1 = 0 → (
   Q (-1) (upM M 1 0 0)
  )) ∧ (¬ r1 = 0 → (
   w_X12_isCase P a2 (upM M 1 0 0) (fun r5 =>
   (r5 = 0 → (
    Q (-1) (upM M 1 0 0)
   )) ∧ (¬ r5 = 0 → (
    vp_in ((512 * a1) + a2) (3072) ∧
    Q ((upM M 1 0 0) 9 ((512 * a1) + a2).toNatClampNeg) (upM M 1 0 0)
   )))
  )))
set_option maxRecDepth 20000 in
theorem c_X12_clauses (l : Launch) (P : jP) (a1 : Int32) (a2 : Int32) (M : jM) (N : jN) (Q : Int32 → jM → Prop) (h : w_X12_clauses P a1 a2 M Q) : jC l yX12_clauses cX12_clauses 3 (some .int) rm_X12_clauses LM [.ref (P.1 1), .int a1, .int a2] P M N (jqi P (fun r M' N' => N = N' ∧ Q r M' )) := by
  refine jC_of (by decide +kernel) [(0, .ref (P.1 1)), (1, .int a1), (2, .int a2)] (Nat.le_of_ble_eq_true rfl) rfl (fun X o => ?_)
  obtain ⟨E, hE⟩ : ∃ E, E = jE X rm_X12_clauses (jqi P (fun r M' N' => N = N' ∧ Q r M' )) := ⟨_, rfl⟩
  rw [← hE]
  unfold w_X12_clauses at h
  refine j_aload_n o dX12_clauses_0 rfl ?_
  refine j_iconst o (v := 0) dX12_clauses_1 rfl ?_
  refine j_putf o (M1 := upM M 1 0 0) (N1 := N) (g := 1) (slot := 0) (ci := 12) (ty := .int) rfl jin_X12 tyX12_ok nmX12 (by decide) rfl rfl jf_X12_114 (by decide +kernel) rfl rfl (Nat.le_of_ble_eq_true rfl) (fun _ => rfl) (fun _ => rfl) (fun _ hj => upM_ne _ _ _ hj) (fun _ _ => rfl) dX12_clauses_2 ?_
  refine j_aload_n o dX12_clauses_5 rfl ?_
  refine j_iload_n o dX12_clauses_6 rfl ?_
  refine j_callVi (g := 1) (ci := 12) o (c_X12_isLaw l P a1 (upM M 1 0 0) N _ h) dX12_clauses_7 jc_X12_233 jn_X12_isLaw rfl rfl rfl (fun _ => rfl) rfl rfl (fun r1 Mz2 Nz3 h => ?_)
  obtain ⟨rfl, rfl, h⟩ := h
  refine j_if_eq o (tgt := 36) dX12_clauses_10 (by decide) (fun c4 => ?_) (fun c4 => ?_)
  · replace h := h.1 c4
    refine j_iconst o (v := (-1)) dX12_clauses_36 rfl ?_
    rw [hE]
    exact j_iret o dX12_clauses_37 ⟨_, rfl, rfl, rfl, h⟩
  · replace h := h.2 c4
    refine j_aload_n o dX12_clauses_13 rfl ?_
    refine j_iload_n o dX12_clauses_14 rfl ?_
    refine j_callVi (g := 1) (ci := 12) o (c_X12_isCase l P a2 (upM M 1 0 0) N _ h) dX12_clauses_15 jc_X12_236 jn_X12_isCase rfl rfl rfl (fun _ => rfl) rfl rfl (fun r5 Mz6 Nz7 h => ?_)
    obtain ⟨rfl, rfl, h⟩ := h
    refine j_if_eq o (tgt := 36) dX12_clauses_18 (by decide) (fun c8 => ?_) (fun c8 => ?_)
    · replace h := h.1 c8
      refine j_iconst o (v := (-1)) dX12_clauses_36 rfl ?_
      rw [hE]
      exact j_iret o dX12_clauses_37 ⟨_, rfl, rfl, rfl, h⟩
    · replace h := h.2 c8
      refine j_aload_n o dX12_clauses_21 rfl ?_
      refine j_getf o (g := 1) (slot := 18) (ci := 12) (v := .ref (P.1 9)) rfl jin_X12 (by decide) rfl jf_X12_32 (fun _ => rfl) rfl dX12_clauses_22 ?_
      refine j_sipush o (v := 512) dX12_clauses_25 rfl ?_
      refine j_iload_n o dX12_clauses_28 rfl ?_
      refine j_imul o dX12_clauses_29 ?_
      refine j_iload_n o dX12_clauses_30 rfl ?_
      refine j_iadd o dX12_clauses_31 ?_
      obtain ⟨hb9, h⟩ := h
      refine j_iald o (g := 9) (fun _ => rfl) hb9 dX12_clauses_32 ?_
      refine j_goto o (tgt := 37) dX12_clauses_33 (by decide) ?_
      rw [hE]
      exact j_iret o dX12_clauses_37 ⟨_, rfl, rfl, rfl, h⟩

abbrev rm_X12_clashes : Room := { frames := 1, cells := 0, slots := 0, locals := 21 }
def w_X12_clashes (P : jP) (a1 : Int32) (a2 : Int32) (M : jM) (Q : Int32 → Prop) : Prop :=
  ∀ R5 : Int32 → Int32 → Prop, (∀ (x1 : Int32) (x2 : Int32), (
   vp_in a1 (6) ∧
   ((M 10 a1.toNatClampNeg) ≤ x2 → (
    w_J6_bitCount_0f7a4 P x1 (fun r5 =>
    (r5 ≤ 1 → (
     Q 0
    )) ∧ (¬ r5 ≤ 1 → (
     Q 1
    )))
   )) ∧ (¬ (M 10 a1.toNatClampNeg) ≤ x2 → (
    vp_in ((512 * a1) + a2) (3072) ∧
    w_X12_has P (M 9 ((512 * a1) + a2).toNatClampNeg) x2 (fun r10 =>
    ∀ R55 : Int32 → Prop, (∀ (x13 : Int32), (
     R5 (x1 ||| x13) (x2 + 1)
    ) → R55 x13) →
    (r10 = 0 → (
     R55 0
    )) ∧ (¬ r10 = 0 → (
     vp_in ((12 * a1) + x2) (72) ∧
     R55 ((1 : Int32) <<< ((M 11 ((12 * a1) + x2).toNatClampNeg) &&& 31))
    )))
   ))
  ) → R5 x1 x2) →
  R5 0 0
set_option maxRecDepth 20000 in
theorem c_X12_clashes (l : Launch) (P : jP) (a1 : Int32) (a2 : Int32) (M : jM) (N : jN) (Q : Int32 → Prop) (h : w_X12_clashes P a1 a2 M Q) : jC l yX12_clashes cX12_clashes 5 (some .boolean) rm_X12_clashes LM [.ref (P.1 1), .int a1, .int a2] P M N (jqi P (fun r M' N' => M = M' ∧ N = N' ∧ Q r )) := by
  refine jC_of (by decide +kernel) [(0, .ref (P.1 1)), (1, .int a1), (2, .int a2)] (Nat.le_of_ble_eq_true rfl) rfl (fun X o => ?_)
  obtain ⟨E, hE⟩ : ∃ E, E = jE X rm_X12_clashes (jqi P (fun r M' N' => M = M' ∧ N = N' ∧ Q r )) := ⟨_, rfl⟩
  rw [← hE]
  unfold w_X12_clashes at h
  refine j_iconst o (v := 0) dX12_clashes_0 rfl ?_
  refine j_istore_n o [(3, .int 0), (0, .ref (P.1 1)), (1, .int a1), (2, .int a2)] dX12_clashes_1 (by decide) rfl ?_
  refine j_iconst o (v := 0) dX12_clashes_2 rfl ?_
  refine j_istore o [(4, .int 0), (3, .int 0), (0, .ref (P.1 1)), (1, .int a1), (2, .int a2)] dX12_clashes_3 (by decide) rfl ?_
  replace h := h (fun (x1 : Int32) (x2 : Int32) => J X P M N 0 0 E 5 5 [(0, .ref (P.1 1)), (1, .int a1), (2, .int a2), (3, .int x1), (4, .int x2)] []) (by
    intro x1 x2 h
    refine j_iload o dX12_clashes_5 rfl ?_
    refine j_aload_n o dX12_clashes_7 rfl ?_
    refine j_getf o (g := 1) (slot := 19) (ci := 12) (v := .ref (P.1 10)) rfl jin_X12 (by decide) rfl jf_X12_35 (fun _ => rfl) rfl dX12_clashes_8 ?_
    refine j_iload_n o dX12_clashes_11 rfl ?_
    obtain ⟨hb3, h⟩ := h
    refine j_iald o (g := 10) (fun _ => rfl) hb3 dX12_clashes_12 ?_
    refine j_icmp_ge o (tgt := 63) dX12_clashes_13 (by decide) (fun c4 => ?_) (fun c4 => ?_)
    · replace h := h.1 c4
      refine j_iload_n o dX12_clashes_63 rfl ?_
      refine j_callSi o (c_J6_bitCount_0f7a4 l P x1 M N _ h) dX12_clashes_64 jc_X12_117 jn_J6_bitCount_0f7a4 rfl rfl rfl rfl (fun r5 Mz6 Nz7 h => ?_)
      obtain ⟨rfl, rfl, h⟩ := h
      refine j_iconst o (v := 1) dX12_clashes_67 rfl ?_
      refine j_icmp_le o (tgt := 75) dX12_clashes_68 (by decide) (fun c8 => ?_) (fun c8 => ?_)
      · replace h := h.1 c8
        refine j_iconst o (v := 0) dX12_clashes_75 rfl ?_
        rw [hE]
        exact j_zret o rfl dX12_clashes_76 ⟨_, rfl, rfl, rfl, rfl, h⟩
      · replace h := h.2 c8
        refine j_iconst o (v := 1) dX12_clashes_71 rfl ?_
        refine j_goto o (tgt := 76) dX12_clashes_72 (by decide) ?_
        rw [hE]
        exact j_zret o rfl dX12_clashes_76 ⟨_, rfl, rfl, rfl, rfl, h⟩
    · replace h := h.2 c4
      refine j_iload_n o dX12_clashes_16 rfl ?_
      refine j_aload_n o dX12_clashes_17 rfl ?_
      refine j_getf o (g := 1) (slot := 18) (ci := 12) (v := .ref (P.1 9)) rfl jin_X12 (by decide) rfl jf_X12_32 (fun _ => rfl) rfl dX12_clashes_18 ?_
      refine j_sipush o (v := 512) dX12_clashes_21 rfl ?_
      refine j_iload_n o dX12_clashes_24 rfl ?_
      refine j_imul o dX12_clashes_25 ?_
      refine j_iload_n o dX12_clashes_26 rfl ?_
      refine j_iadd o dX12_clashes_27 ?_
      obtain ⟨hb9, h⟩ := h
      refine j_iald o (g := 9) (fun _ => rfl) hb9 dX12_clashes_28 ?_
      refine j_iload o dX12_clashes_29 rfl ?_
      refine j_callSi o (c_X12_has l P (M 9 ((512 * a1) + a2).toNatClampNeg) x2 M N _ h) dX12_clashes_31 jc_X12_157 jn_X12_has rfl rfl rfl rfl (fun r10 Mz11 Nz12 h => ?_)
      obtain ⟨rfl, rfl, h⟩ := h
      replace h := h (fun (x13 : Int32) => J X P M N 0 0 E 5 55 [(0, .ref (P.1 1)), (1, .int a1), (2, .int a2), (4, .int x2)] [.int x13, .int x1]) (by
        intro x13 h
        refine j_ior o dX12_clashes_55 ?_
        refine j_istore_n o [(3, .int (x1 ||| x13)), (0, .ref (P.1 1)), (1, .int a1), (2, .int a2), (4, .int x2)] dX12_clashes_56 (by decide) rfl ?_
        refine j_iinc o (v := x2 + 1) [(4, .int (x2 + 1)), (3, .int (x1 ||| x13)), (0, .ref (P.1 1)), (1, .int a1), (2, .int a2)] dX12_clashes_57 rfl rfl (by decide) rfl ?_
        refine j_goto o (tgt := 5) dX12_clashes_60 (by decide) ?_
        exact j_pick [2, 3, 4, 1, 0] rfl h)
      refine j_if_eq o (tgt := 54) dX12_clashes_34 (by decide) (fun c14 => ?_) (fun c14 => ?_)
      · replace h := h.1 c14
        refine j_iconst o (v := 0) dX12_clashes_54 rfl ?_
        exact j_pick [0, 1, 2, 4] rfl h
      · replace h := h.2 c14
        refine j_iconst o (v := 1) dX12_clashes_37 rfl ?_
        refine j_aload_n o dX12_clashes_38 rfl ?_
        refine j_getf o (g := 1) (slot := 20) (ci := 12) (v := .ref (P.1 11)) rfl jin_X12 (by decide) rfl jf_X12_38 (fun _ => rfl) rfl dX12_clashes_39 ?_
        refine j_bipush o (v := 12) dX12_clashes_42 rfl ?_
        refine j_iload_n o dX12_clashes_44 rfl ?_
        refine j_imul o dX12_clashes_45 ?_
        refine j_iload o dX12_clashes_46 rfl ?_
        refine j_iadd o dX12_clashes_48 ?_
        obtain ⟨hb15, h⟩ := h
        refine j_iald o (g := 11) (fun _ => rfl) hb15 dX12_clashes_49 ?_
        refine j_ishl o dX12_clashes_50 ?_
        refine j_goto o (tgt := 55) dX12_clashes_51 (by decide) ?_
        exact j_pick [0, 1, 2, 4] rfl h)
  exact j_pick [2, 3, 4, 1, 0] rfl h

abbrev rm_X12_gap : Room := { frames := 2, cells := 0, slots := 0, locals := 45 }
def w_X12_gap (P : jP) (a1 : Int32) (a2 : Int32) (a3 : Int32) (M : jM) (Q : Int32 → jM → Prop) : Prop :=
  w_X12_isLaw P a1 (upM M 1 0 0) (fun r1 =>
  (r1 = 0 → (
   Q (-1) (upM M 1 0 0)
  )) ∧ (¬ r1 = 0 → (
   w_X12_isIn P a2 0 1 (fun r5 =>
   (¬ r5 = 0 → (
    ∀ R30 : Int32 → Int32 → Prop, (∀ (x9 : Int32) (x10 : Int32), (
     (((upM M 1 0 0) 1 2) ≤ x10 → (
      (¬ a3 = (-1) → (
       Q (-1) (upM M 1 0 0)
      )) ∧ (a3 = (-1) → (
       Q x9 (upM M 1 0 0)
      ))
     )) ∧ (¬ ((upM M 1 0 0) 1 2) ≤ x10 → (
      ∀ R82 : Int32 → Prop, (∀ (x13 : Int32), (
       R30 x13 (x10 + 1)
      ) → R82 x13) →
      ∀ R70 : Prop, ((
       (¬ x9 = a3 → (
        R82 (x9 + 1)
       )) ∧ (x9 = a3 → (
        Q x10 (upM M 1 0 0)
       ))
      ) → R70) →
      (¬ a2 = 0 → (
       w_X12_saidOn P a1 x10 (upM M 1 0 0) (fun r16 =>
       (r16 = (-1) → (
        R70
       )) ∧ (¬ r16 = (-1) → (
        R82 x9
       )))
      )) ∧ (a2 = 0 → (
       w_X12_clashes P a1 x10 (upM M 1 0 0) (fun r20 =>
       (r20 = 0 → (
        R82 x9
       )) ∧ (¬ r20 = 0 → (
        R70
       )))
      ))
     ))
    ) → R30 x9 x10) →
    R30 0 0
   )) ∧ (r5 = 0 → (
    Q (-1) (upM M 1 0 0)
   )))
  )))
set_option maxRecDepth 20000 in
theorem c_X12_gap (l : Launch) (P : jP) (a1 : Int32) (a2 : Int32) (a3 : Int32) (M : jM) (N : jN) (Q : Int32 → jM → Prop) (h : w_X12_gap P a1 a2 a3 M Q) : jC l yX12_gap cX12_gap 6 (some .int) rm_X12_gap LM [.ref (P.1 1), .int a1, .int a2, .int a3] P M N (jqi P (fun r M' N' => N = N' ∧ Q r M' )) := by
  refine jC_of (by decide +kernel) [(0, .ref (P.1 1)), (1, .int a1), (2, .int a2), (3, .int a3)] (Nat.le_of_ble_eq_true rfl) rfl (fun X o => ?_)
  obtain ⟨E, hE⟩ : ∃ E, E = jE X rm_X12_gap (jqi P (fun r M' N' => N = N' ∧ Q r M' )) := ⟨_, rfl⟩
  rw [← hE]
  unfold w_X12_gap at h
  refine j_aload_n o dX12_gap_0 rfl ?_
  refine j_iconst o (v := 0) dX12_gap_1 rfl ?_
  refine j_putf o (M1 := upM M 1 0 0) (N1 := N) (g := 1) (slot := 0) (ci := 12) (ty := .int) rfl jin_X12 tyX12_ok nmX12 (by decide) rfl rfl jf_X12_114 (by decide +kernel) rfl rfl (Nat.le_of_ble_eq_true rfl) (fun _ => rfl) (fun _ => rfl) (fun _ hj => upM_ne _ _ _ hj) (fun _ _ => rfl) dX12_gap_2 ?_
  refine j_aload_n o dX12_gap_5 rfl ?_
  refine j_iload_n o dX12_gap_6 rfl ?_
  refine j_callVi (g := 1) (ci := 12) o (c_X12_isLaw l P a1 (upM M 1 0 0) N _ h) dX12_gap_7 jc_X12_233 jn_X12_isLaw rfl rfl rfl (fun _ => rfl) rfl rfl (fun r1 Mz2 Nz3 h => ?_)
  obtain ⟨rfl, rfl, h⟩ := h
  refine j_if_eq o (tgt := 22) dX12_gap_10 (by decide) (fun c4 => ?_) (fun c4 => ?_)
  · replace h := h.1 c4
    refine j_iconst o (v := (-1)) dX12_gap_22 rfl ?_
    rw [hE]
    exact j_iret o dX12_gap_23 ⟨_, rfl, rfl, rfl, h⟩
  · replace h := h.2 c4
    refine j_iload_n o dX12_gap_13 rfl ?_
    refine j_iconst o (v := 0) dX12_gap_14 rfl ?_
    refine j_iconst o (v := 1) dX12_gap_15 rfl ?_
    refine j_callSi o (c_X12_isIn l P a2 0 1 (upM M 1 0 0) N _ h) dX12_gap_16 jc_X12_209 jn_X12_isIn rfl rfl rfl rfl (fun r5 Mz6 Nz7 h => ?_)
    obtain ⟨rfl, rfl, h⟩ := h
    refine j_if_ne o (tgt := 24) dX12_gap_19 (by decide) (fun c8 => ?_) (fun c8 => ?_)
    · replace h := h.1 c8
      refine j_iconst o (v := 0) dX12_gap_24 rfl ?_
      refine j_istore o [(4, .int 0), (0, .ref (P.1 1)), (1, .int a1), (2, .int a2), (3, .int a3)] dX12_gap_25 (by decide) rfl ?_
      refine j_iconst o (v := 0) dX12_gap_27 rfl ?_
      refine j_istore o [(5, .int 0), (4, .int 0), (0, .ref (P.1 1)), (1, .int a1), (2, .int a2), (3, .int a3)] dX12_gap_28 (by decide) rfl ?_
      replace h := h (fun (x9 : Int32) (x10 : Int32) => J X P (upM M 1 0 0) N 0 0 E 6 30 [(0, .ref (P.1 1)), (1, .int a1), (2, .int a2), (3, .int a3), (4, .int x9), (5, .int x10)] []) (by
        intro x9 x10 h
        refine j_iload o dX12_gap_30 rfl ?_
        refine j_aload_n o dX12_gap_32 rfl ?_
        refine j_getf o (g := 1) (slot := 2) (ci := 12) (v := .int ((upM M 1 0 0) 1 2)) rfl jin_X12 (by decide) rfl jf_X12_111 (fun _ => rfl) rfl dX12_gap_33 ?_
        refine j_icmp_ge o (tgt := 88) dX12_gap_36 (by decide) (fun c11 => ?_) (fun c11 => ?_)
        · replace h := h.1 c11
          refine j_iload_n o dX12_gap_88 rfl ?_
          refine j_iconst o (v := (-1)) dX12_gap_89 rfl ?_
          refine j_icmp_ne o (tgt := 98) dX12_gap_90 (by decide) (fun c12 => ?_) (fun c12 => ?_)
          · replace h := h.1 c12
            refine j_iconst o (v := (-1)) dX12_gap_98 rfl ?_
            rw [hE]
            exact j_iret o dX12_gap_99 ⟨_, rfl, rfl, rfl, h⟩
          · replace h := h.2 c12
            refine j_iload o dX12_gap_93 rfl ?_
            refine j_goto o (tgt := 99) dX12_gap_95 (by decide) ?_
            rw [hE]
            exact j_iret o dX12_gap_99 ⟨_, rfl, rfl, rfl, h⟩
        · replace h := h.2 c11
          refine j_iload_n o dX12_gap_39 rfl ?_
          replace h := h (fun (x13 : Int32) => J X P (upM M 1 0 0) N 0 0 E 6 82 [(0, .ref (P.1 1)), (1, .int a1), (2, .int a2), (3, .int a3), (4, .int x13), (5, .int x10)] []) (by
            intro x13 h
            refine j_iinc o (v := x10 + 1) [(5, .int (x10 + 1)), (0, .ref (P.1 1)), (1, .int a1), (2, .int a2), (3, .int a3), (4, .int x13)] dX12_gap_82 rfl rfl (by decide) rfl ?_
            refine j_goto o (tgt := 30) dX12_gap_85 (by decide) ?_
            exact j_pick [1, 2, 3, 4, 5, 0] rfl h)
          replace h := h (J X P (upM M 1 0 0) N 0 0 E 6 70 [(0, .ref (P.1 1)), (1, .int a1), (2, .int a2), (3, .int a3), (4, .int x9), (5, .int x10)] []) (by
            intro h
            refine j_iload o dX12_gap_70 rfl ?_
            refine j_iload_n o dX12_gap_72 rfl ?_
            refine j_icmp_ne o (tgt := 79) dX12_gap_73 (by decide) (fun c14 => ?_) (fun c14 => ?_)
            · replace h := h.1 c14
              refine j_iinc o (v := x9 + 1) [(4, .int (x9 + 1)), (0, .ref (P.1 1)), (1, .int a1), (2, .int a2), (3, .int a3), (5, .int x10)] dX12_gap_79 rfl rfl (by decide) rfl ?_
              exact j_pick [1, 2, 3, 4, 0, 5] rfl h
            · replace h := h.2 c14
              refine j_iload o dX12_gap_76 rfl ?_
              rw [hE]
              exact j_iret o dX12_gap_78 ⟨_, rfl, rfl, rfl, h⟩)
          refine j_if_ne o (tgt := 56) dX12_gap_40 (by decide) (fun c15 => ?_) (fun c15 => ?_)
          · replace h := h.1 c15
            refine j_aload_n o dX12_gap_56 rfl ?_
            refine j_iload_n o dX12_gap_57 rfl ?_
            refine j_iload o dX12_gap_58 rfl ?_
            refine j_callVi (g := 1) (ci := 12) o (c_X12_saidOn l P a1 x10 (upM M 1 0 0) N _ h) dX12_gap_60 jc_X12_239 jn_X12_saidOn rfl rfl rfl (fun _ => rfl) rfl rfl (fun r16 Mz17 Nz18 h => ?_)
            obtain ⟨rfl, rfl, h⟩ := h
            refine j_iconst o (v := (-1)) dX12_gap_63 rfl ?_
            refine j_icmp_eq o (tgt := 70) dX12_gap_64 (by decide) (fun c19 => ?_) (fun c19 => ?_)
            · replace h := h.1 c19
              exact j_pick [0, 1, 2, 3, 4, 5] rfl h
            · replace h := h.2 c19
              refine j_goto o (tgt := 82) dX12_gap_67 (by decide) ?_
              exact j_pick [0, 1, 2, 3, 4, 5] rfl h
          · replace h := h.2 c15
            refine j_aload_n o dX12_gap_43 rfl ?_
            refine j_iload_n o dX12_gap_44 rfl ?_
            refine j_iload o dX12_gap_45 rfl ?_
            refine j_callVi (g := 1) (ci := 12) o (c_X12_clashes l P a1 x10 (upM M 1 0 0) N _ h) dX12_gap_47 jc_X12_242 jn_X12_clashes rfl rfl rfl (fun _ => rfl) rfl rfl (fun r20 Mz21 Nz22 h => ?_)
            obtain ⟨rfl, rfl, h⟩ := h
            refine j_if_eq o (tgt := 82) dX12_gap_50 (by decide) (fun c23 => ?_) (fun c23 => ?_)
            · replace h := h.1 c23
              exact j_pick [0, 1, 2, 3, 4, 5] rfl h
            · replace h := h.2 c23
              refine j_goto o (tgt := 70) dX12_gap_53 (by decide) ?_
              exact j_pick [0, 1, 2, 3, 4, 5] rfl h)
      exact j_pick [2, 3, 4, 5, 1, 0] rfl h
    · replace h := h.2 c8
      refine j_iconst o (v := (-1)) dX12_gap_22 rfl ?_
      rw [hE]
      exact j_iret o dX12_gap_23 ⟨_, rfl, rfl, rfl, h⟩

abbrev rm_X12_isKnown : Room := { frames := 1, cells := 0, slots := 0, locals := 21 }
def w_X12_isKnown (P : jP) (a1 : Int32) (a2 : Int32) (M : jM) (Q : Int32 → Prop) : Prop :=
  w_X12_isCase P a1 M (fun r1 =>
  (r1 = 0 → (
   Q 0
  )) ∧ (¬ r1 = 0 → (
   w_X12_isCase P a2 M (fun r5 =>
   (r5 = 0 → (
    Q 0
   )) ∧ (¬ r5 = 0 → (
    (¬ (a2 &&& (a1 ^^^ (-1))) = 0 → (
     Q 0
    )) ∧ ((a2 &&& (a1 ^^^ (-1))) = 0 → (
     Q 1
    ))
   )))
  )))
set_option maxRecDepth 20000 in
theorem c_X12_isKnown (l : Launch) (P : jP) (a1 : Int32) (a2 : Int32) (M : jM) (N : jN) (Q : Int32 → Prop) (h : w_X12_isKnown P a1 a2 M Q) : jC l yX12_isKnown cX12_isKnown 3 (some .boolean) rm_X12_isKnown LM [.ref (P.1 1), .int a1, .int a2] P M N (jqi P (fun r M' N' => M = M' ∧ N = N' ∧ Q r )) := by
  refine jC_of (by decide +kernel) [(0, .ref (P.1 1)), (1, .int a1), (2, .int a2)] (Nat.le_of_ble_eq_true rfl) rfl (fun X o => ?_)
  obtain ⟨E, hE⟩ : ∃ E, E = jE X rm_X12_isKnown (jqi P (fun r M' N' => M = M' ∧ N = N' ∧ Q r )) := ⟨_, rfl⟩
  rw [← hE]
  unfold w_X12_isKnown at h
  refine j_aload_n o dX12_isKnown_0 rfl ?_
  refine j_iload_n o dX12_isKnown_1 rfl ?_
  refine j_callVi (g := 1) (ci := 12) o (c_X12_isCase l P a1 M N _ h) dX12_isKnown_2 jc_X12_236 jn_X12_isCase rfl rfl rfl (fun _ => rfl) rfl rfl (fun r1 Mz2 Nz3 h => ?_)
  obtain ⟨rfl, rfl, h⟩ := h
  refine j_if_eq o (tgt := 28) dX12_isKnown_5 (by decide) (fun c4 => ?_) (fun c4 => ?_)
  · replace h := h.1 c4
    refine j_iconst o (v := 0) dX12_isKnown_28 rfl ?_
    rw [hE]
    exact j_zret o rfl dX12_isKnown_29 ⟨_, rfl, rfl, rfl, rfl, h⟩
  · replace h := h.2 c4
    refine j_aload_n o dX12_isKnown_8 rfl ?_
    refine j_iload_n o dX12_isKnown_9 rfl ?_
    refine j_callVi (g := 1) (ci := 12) o (c_X12_isCase l P a2 M N _ h) dX12_isKnown_10 jc_X12_236 jn_X12_isCase rfl rfl rfl (fun _ => rfl) rfl rfl (fun r5 Mz6 Nz7 h => ?_)
    obtain ⟨rfl, rfl, h⟩ := h
    refine j_if_eq o (tgt := 28) dX12_isKnown_13 (by decide) (fun c8 => ?_) (fun c8 => ?_)
    · replace h := h.1 c8
      refine j_iconst o (v := 0) dX12_isKnown_28 rfl ?_
      rw [hE]
      exact j_zret o rfl dX12_isKnown_29 ⟨_, rfl, rfl, rfl, rfl, h⟩
    · replace h := h.2 c8
      refine j_iload_n o dX12_isKnown_16 rfl ?_
      refine j_iload_n o dX12_isKnown_17 rfl ?_
      refine j_iconst o (v := (-1)) dX12_isKnown_18 rfl ?_
      refine j_ixor o dX12_isKnown_19 ?_
      refine j_iand o dX12_isKnown_20 ?_
      refine j_if_ne o (tgt := 28) dX12_isKnown_21 (by decide) (fun c9 => ?_) (fun c9 => ?_)
      · replace h := h.1 c9
        refine j_iconst o (v := 0) dX12_isKnown_28 rfl ?_
        rw [hE]
        exact j_zret o rfl dX12_isKnown_29 ⟨_, rfl, rfl, rfl, rfl, h⟩
      · replace h := h.2 c9
        refine j_iconst o (v := 1) dX12_isKnown_24 rfl ?_
        refine j_goto o (tgt := 29) dX12_isKnown_25 (by decide) ?_
        rw [hE]
        exact j_zret o rfl dX12_isKnown_29 ⟨_, rfl, rfl, rfl, rfl, h⟩

abbrev rm_X12_sureOf : Room := { frames := 1, cells := 0, slots := 0, locals := 22 }
def w_X12_sureOf (P : jP) (a1 : Int32) (a2 : Int32) (a3 : Int32) (M : jM) (Q : Int32 → Prop) : Prop :=
  w_X12_saidOn P a1 a3 M (fun r1 =>
  ∀ R11 : Int32 → Prop, (∀ (x4 : Int32), (
   ((M 1 2) ≤ x4 → (
    Q r1
   )) ∧ (¬ (M 1 2) ≤ x4 → (
    ∀ R43 : Prop, ((
     R11 (x4 + 1)
    ) → R43) →
    (¬ (x4 &&& a2) = a3 → (
     R43
    )) ∧ ((x4 &&& a2) = a3 → (
     w_X12_saidOn P a1 x4 M (fun r7 =>
     (r7 = r1 → (
      R43
     )) ∧ (¬ r7 = r1 → (
      Q (-2)
     )))
    ))
   ))
  ) → R11 x4) →
  R11 0)
set_option maxRecDepth 20000 in
theorem c_X12_sureOf (l : Launch) (P : jP) (a1 : Int32) (a2 : Int32) (a3 : Int32) (M : jM) (N : jN) (Q : Int32 → Prop) (h : w_X12_sureOf P a1 a2 a3 M Q) : jC l yX12_sureOf cX12_sureOf 6 (some .int) rm_X12_sureOf LM [.ref (P.1 1), .int a1, .int a2, .int a3] P M N (jqi P (fun r M' N' => M = M' ∧ N = N' ∧ Q r )) := by
  refine jC_of (by decide +kernel) [(0, .ref (P.1 1)), (1, .int a1), (2, .int a2), (3, .int a3)] (Nat.le_of_ble_eq_true rfl) rfl (fun X o => ?_)
  obtain ⟨E, hE⟩ : ∃ E, E = jE X rm_X12_sureOf (jqi P (fun r M' N' => M = M' ∧ N = N' ∧ Q r )) := ⟨_, rfl⟩
  rw [← hE]
  unfold w_X12_sureOf at h
  refine j_aload_n o dX12_sureOf_0 rfl ?_
  refine j_iload_n o dX12_sureOf_1 rfl ?_
  refine j_iload_n o dX12_sureOf_2 rfl ?_
  refine j_callVi (g := 1) (ci := 12) o (c_X12_saidOn l P a1 a3 M N _ h) dX12_sureOf_3 jc_X12_239 jn_X12_saidOn rfl rfl rfl (fun _ => rfl) rfl rfl (fun r1 Mz2 Nz3 h => ?_)
  obtain ⟨rfl, rfl, h⟩ := h
  refine j_istore o [(4, .int r1), (0, .ref (P.1 1)), (1, .int a1), (2, .int a2), (3, .int a3)] dX12_sureOf_6 (by decide) rfl ?_
  refine j_iconst o (v := 0) dX12_sureOf_8 rfl ?_
  refine j_istore o [(5, .int 0), (4, .int r1), (0, .ref (P.1 1)), (1, .int a1), (2, .int a2), (3, .int a3)] dX12_sureOf_9 (by decide) rfl ?_
  replace h := h (fun (x4 : Int32) => J X P M N 0 0 E 6 11 [(0, .ref (P.1 1)), (1, .int a1), (2, .int a2), (3, .int a3), (4, .int r1), (5, .int x4)] []) (by
    intro x4 h
    refine j_iload o dX12_sureOf_11 rfl ?_
    refine j_aload_n o dX12_sureOf_13 rfl ?_
    refine j_getf o (g := 1) (slot := 2) (ci := 12) (v := .int (M 1 2)) rfl jin_X12 (by decide) rfl jf_X12_111 (fun _ => rfl) rfl dX12_sureOf_14 ?_
    refine j_icmp_ge o (tgt := 49) dX12_sureOf_17 (by decide) (fun c5 => ?_) (fun c5 => ?_)
    · replace h := h.1 c5
      refine j_iload o dX12_sureOf_49 rfl ?_
      rw [hE]
      exact j_iret o dX12_sureOf_51 ⟨_, rfl, rfl, rfl, rfl, h⟩
    · replace h := h.2 c5
      refine j_iload o dX12_sureOf_20 rfl ?_
      refine j_iload_n o dX12_sureOf_22 rfl ?_
      refine j_iand o dX12_sureOf_23 ?_
      refine j_iload_n o dX12_sureOf_24 rfl ?_
      replace h := h (J X P M N 0 0 E 6 43 [(0, .ref (P.1 1)), (1, .int a1), (2, .int a2), (3, .int a3), (4, .int r1), (5, .int x4)] []) (by
        intro h
        refine j_iinc o (v := x4 + 1) [(5, .int (x4 + 1)), (0, .ref (P.1 1)), (1, .int a1), (2, .int a2), (3, .int a3), (4, .int r1)] dX12_sureOf_43 rfl rfl (by decide) rfl ?_
        refine j_goto o (tgt := 11) dX12_sureOf_46 (by decide) ?_
        exact j_pick [1, 2, 3, 4, 5, 0] rfl h)
      refine j_icmp_ne o (tgt := 43) dX12_sureOf_25 (by decide) (fun c6 => ?_) (fun c6 => ?_)
      · replace h := h.1 c6
        exact j_pick [0, 1, 2, 3, 4, 5] rfl h
      · replace h := h.2 c6
        refine j_aload_n o dX12_sureOf_28 rfl ?_
        refine j_iload_n o dX12_sureOf_29 rfl ?_
        refine j_iload o dX12_sureOf_30 rfl ?_
        refine j_callVi (g := 1) (ci := 12) o (c_X12_saidOn l P a1 x4 M N _ h) dX12_sureOf_32 jc_X12_239 jn_X12_saidOn rfl rfl rfl (fun _ => rfl) rfl rfl (fun r7 Mz8 Nz9 h => ?_)
        obtain ⟨rfl, rfl, h⟩ := h
        refine j_iload o dX12_sureOf_35 rfl ?_
        refine j_icmp_eq o (tgt := 43) dX12_sureOf_37 (by decide) (fun c10 => ?_) (fun c10 => ?_)
        · replace h := h.1 c10
          exact j_pick [0, 1, 2, 3, 4, 5] rfl h
        · replace h := h.2 c10
          refine j_bipush o (v := (-2)) dX12_sureOf_40 rfl ?_
          rw [hE]
          exact j_iret o dX12_sureOf_42 ⟨_, rfl, rfl, rfl, rfl, h⟩)
  exact j_pick [2, 3, 4, 5, 1, 0] rfl h

abbrev rm_X12_sure : Room := { frames := 2, cells := 0, slots := 0, locals := 47 }
def w_X12_sure (P : jP) (a1 : Int32) (a2 : Int32) (a3 : Int32) (M : jM) (Q : Int32 → jM → Prop) : Prop :=
  w_X12_isLaw P a1 (upM M 1 0 0) (fun r1 =>
  (r1 = 0 → (
   Q (-2) (upM M 1 0 0)
  )) ∧ (¬ r1 = 0 → (
   w_X12_isKnown P a2 a3 (upM M 1 0 0) (fun r5 =>
   (r5 = 0 → (
    Q (-2) (upM M 1 0 0)
   )) ∧ (¬ r5 = 0 → (
    w_X12_sureOf P a1 a2 a3 (upM M 1 0 0) (fun r9 =>
    Q r9 (upM M 1 0 0))
   )))
  )))
set_option maxRecDepth 20000 in
theorem c_X12_sure (l : Launch) (P : jP) (a1 : Int32) (a2 : Int32) (a3 : Int32) (M : jM) (N : jN) (Q : Int32 → jM → Prop) (h : w_X12_sure P a1 a2 a3 M Q) : jC l yX12_sure cX12_sure 4 (some .int) rm_X12_sure LM [.ref (P.1 1), .int a1, .int a2, .int a3] P M N (jqi P (fun r M' N' => N = N' ∧ Q r M' )) := by
  refine jC_of (by decide +kernel) [(0, .ref (P.1 1)), (1, .int a1), (2, .int a2), (3, .int a3)] (Nat.le_of_ble_eq_true rfl) rfl (fun X o => ?_)
  obtain ⟨E, hE⟩ : ∃ E, E = jE X rm_X12_sure (jqi P (fun r M' N' => N = N' ∧ Q r M' )) := ⟨_, rfl⟩
  rw [← hE]
  unfold w_X12_sure at h
  refine j_aload_n o dX12_sure_0 rfl ?_
  refine j_iconst o (v := 0) dX12_sure_1 rfl ?_
  refine j_putf o (M1 := upM M 1 0 0) (N1 := N) (g := 1) (slot := 0) (ci := 12) (ty := .int) rfl jin_X12 tyX12_ok nmX12 (by decide) rfl rfl jf_X12_114 (by decide +kernel) rfl rfl (Nat.le_of_ble_eq_true rfl) (fun _ => rfl) (fun _ => rfl) (fun _ hj => upM_ne _ _ _ hj) (fun _ _ => rfl) dX12_sure_2 ?_
  refine j_aload_n o dX12_sure_5 rfl ?_
  refine j_iload_n o dX12_sure_6 rfl ?_
  refine j_callVi (g := 1) (ci := 12) o (c_X12_isLaw l P a1 (upM M 1 0 0) N _ h) dX12_sure_7 jc_X12_233 jn_X12_isLaw rfl rfl rfl (fun _ => rfl) rfl rfl (fun r1 Mz2 Nz3 h => ?_)
  obtain ⟨rfl, rfl, h⟩ := h
  refine j_if_eq o (tgt := 32) dX12_sure_10 (by decide) (fun c4 => ?_) (fun c4 => ?_)
  · replace h := h.1 c4
    refine j_bipush o (v := (-2)) dX12_sure_32 rfl ?_
    rw [hE]
    exact j_iret o dX12_sure_34 ⟨_, rfl, rfl, rfl, h⟩
  · replace h := h.2 c4
    refine j_aload_n o dX12_sure_13 rfl ?_
    refine j_iload_n o dX12_sure_14 rfl ?_
    refine j_iload_n o dX12_sure_15 rfl ?_
    refine j_callVi (g := 1) (ci := 12) o (c_X12_isKnown l P a2 a3 (upM M 1 0 0) N _ h) dX12_sure_16 jc_X12_245 jn_X12_isKnown rfl rfl rfl (fun _ => rfl) rfl rfl (fun r5 Mz6 Nz7 h => ?_)
    obtain ⟨rfl, rfl, h⟩ := h
    refine j_if_eq o (tgt := 32) dX12_sure_19 (by decide) (fun c8 => ?_) (fun c8 => ?_)
    · replace h := h.1 c8
      refine j_bipush o (v := (-2)) dX12_sure_32 rfl ?_
      rw [hE]
      exact j_iret o dX12_sure_34 ⟨_, rfl, rfl, rfl, h⟩
    · replace h := h.2 c8
      refine j_aload_n o dX12_sure_22 rfl ?_
      refine j_iload_n o dX12_sure_23 rfl ?_
      refine j_iload_n o dX12_sure_24 rfl ?_
      refine j_iload_n o dX12_sure_25 rfl ?_
      refine j_callVi (g := 1) (ci := 12) o (c_X12_sureOf l P a1 a2 a3 (upM M 1 0 0) N _ h) dX12_sure_26 jc_X12_248 jn_X12_sureOf rfl rfl rfl (fun _ => rfl) rfl rfl (fun r9 Mz10 Nz11 h => ?_)
      obtain ⟨rfl, rfl, h⟩ := h
      refine j_goto o (tgt := 34) dX12_sure_29 (by decide) ?_
      rw [hE]
      exact j_iret o dX12_sure_34 ⟨_, rfl, rfl, rfl, h⟩

abbrev rm_X12_matters : Room := { frames := 1, cells := 0, slots := 0, locals := 22 }
def w_X12_matters (P : jP) (a1 : Int32) (a2 : Int32) (M : jM) (Q : Int32 → jM → Prop) : Prop :=
  w_X12_isLaw P a1 (upM M 1 0 0) (fun r1 =>
  (r1 = 0 → (
   Q (-1) (upM M 1 0 0)
  )) ∧ (¬ r1 = 0 → (
   w_X12_isIn P a2 0 1 (fun r5 =>
   (¬ r5 = 0 → (
    ∀ R29 : Int32 → Int32 → Prop, (∀ (x9 : Int32) (x10 : Int32), (
     (((upM M 1 0 0) 1 1) ≤ x10 → (
      Q x9 (upM M 1 0 0)
     )) ∧ (¬ ((upM M 1 0 0) 1 1) ≤ x10 → (
      ∀ R44 : Int32 → Int32 → Prop, (∀ (x12 : Int32) (x13 : Int32), (
       (((upM M 1 0 0) 1 2) ≤ x13 → (
        ∀ R121 : Int32 → Prop, (∀ (x15 : Int32), (
         R29 (x9 ||| x15) (x10 + 1)
        ) → R121 x15) →
        ∀ R113 : Prop, ((
         R121 ((1 : Int32) <<< (x10 &&& 31))
        ) → R113) →
        (¬ a2 = 0 → (
         (¬ x12 = ((upM M 1 0 0) 1 2) → (
          R121 0
         )) ∧ (x12 = ((upM M 1 0 0) 1 2) → (
          R113
         ))
        )) ∧ (a2 = 0 → (
         (x12 ≤ 0 → (
          R121 0
         )) ∧ (¬ x12 ≤ 0 → (
          R113
         ))
        ))
       )) ∧ (¬ ((upM M 1 0 0) 1 2) ≤ x13 → (
        w_X12_saidOn P a1 x13 (upM M 1 0 0) (fun r19 =>
        w_X12_saidOn P a1 (x13 ^^^ ((1 : Int32) <<< (x10 &&& 31))) (upM M 1 0 0) (fun r22 =>
        ∀ R82 : Int32 → Prop, (∀ (x25 : Int32), (
         R44 (x12 + x25) (x13 + 1)
        ) → R82 x25) →
        (r19 = r22 → (
         R82 0
        )) ∧ (¬ r19 = r22 → (
         R82 1
        ))))
       ))
      ) → R44 x12 x13) →
      R44 0 0
     ))
    ) → R29 x9 x10) →
    R29 0 0
   )) ∧ (r5 = 0 → (
    Q (-1) (upM M 1 0 0)
   )))
  )))
set_option maxRecDepth 20000 in
theorem c_X12_matters (l : Launch) (P : jP) (a1 : Int32) (a2 : Int32) (M : jM) (N : jN) (Q : Int32 → jM → Prop) (h : w_X12_matters P a1 a2 M Q) : jC l yX12_matters cX12_matters 7 (some .int) rm_X12_matters LM [.ref (P.1 1), .int a1, .int a2] P M N (jqi P (fun r M' N' => N = N' ∧ Q r M' )) := by
  refine jC_of (by decide +kernel) [(0, .ref (P.1 1)), (1, .int a1), (2, .int a2)] (Nat.le_of_ble_eq_true rfl) rfl (fun X o => ?_)
  obtain ⟨E, hE⟩ : ∃ E, E = jE X rm_X12_matters (jqi P (fun r M' N' => N = N' ∧ Q r M' )) := ⟨_, rfl⟩
  rw [← hE]
  unfold w_X12_matters at h
  refine j_aload_n o dX12_matters_0 rfl ?_
  refine j_iconst o (v := 0) dX12_matters_1 rfl ?_
  refine j_putf o (M1 := upM M 1 0 0) (N1 := N) (g := 1) (slot := 0) (ci := 12) (ty := .int) rfl jin_X12 tyX12_ok nmX12 (by decide) rfl rfl jf_X12_114 (by decide +kernel) rfl rfl (Nat.le_of_ble_eq_true rfl) (fun _ => rfl) (fun _ => rfl) (fun _ hj => upM_ne _ _ _ hj) (fun _ _ => rfl) dX12_matters_2 ?_
  refine j_aload_n o dX12_matters_5 rfl ?_
  refine j_iload_n o dX12_matters_6 rfl ?_
  refine j_callVi (g := 1) (ci := 12) o (c_X12_isLaw l P a1 (upM M 1 0 0) N _ h) dX12_matters_7 jc_X12_233 jn_X12_isLaw rfl rfl rfl (fun _ => rfl) rfl rfl (fun r1 Mz2 Nz3 h => ?_)
  obtain ⟨rfl, rfl, h⟩ := h
  refine j_if_eq o (tgt := 22) dX12_matters_10 (by decide) (fun c4 => ?_) (fun c4 => ?_)
  · replace h := h.1 c4
    refine j_iconst o (v := (-1)) dX12_matters_22 rfl ?_
    rw [hE]
    exact j_iret o dX12_matters_23 ⟨_, rfl, rfl, rfl, h⟩
  · replace h := h.2 c4
    refine j_iload_n o dX12_matters_13 rfl ?_
    refine j_iconst o (v := 0) dX12_matters_14 rfl ?_
    refine j_iconst o (v := 1) dX12_matters_15 rfl ?_
    refine j_callSi o (c_X12_isIn l P a2 0 1 (upM M 1 0 0) N _ h) dX12_matters_16 jc_X12_209 jn_X12_isIn rfl rfl rfl rfl (fun r5 Mz6 Nz7 h => ?_)
    obtain ⟨rfl, rfl, h⟩ := h
    refine j_if_ne o (tgt := 24) dX12_matters_19 (by decide) (fun c8 => ?_) (fun c8 => ?_)
    · replace h := h.1 c8
      refine j_iconst o (v := 0) dX12_matters_24 rfl ?_
      refine j_istore_n o [(3, .int 0), (0, .ref (P.1 1)), (1, .int a1), (2, .int a2)] dX12_matters_25 (by decide) rfl ?_
      refine j_iconst o (v := 0) dX12_matters_26 rfl ?_
      refine j_istore o [(4, .int 0), (3, .int 0), (0, .ref (P.1 1)), (1, .int a1), (2, .int a2)] dX12_matters_27 (by decide) rfl ?_
      replace h := h (fun (x9 : Int32) (x10 : Int32) => J X P (upM M 1 0 0) N 0 0 E 7 29 [(0, .ref (P.1 1)), (1, .int a1), (2, .int a2), (3, .int x9), (4, .int x10)] []) (by
        intro x9 x10 h
        refine j_iload o dX12_matters_29 rfl ?_
        refine j_aload_n o dX12_matters_31 rfl ?_
        refine j_getf o (g := 1) (slot := 1) (ci := 12) (v := .int ((upM M 1 0 0) 1 1)) rfl jin_X12 (by decide) rfl jf_X12_107 (fun _ => rfl) rfl dX12_matters_32 ?_
        refine j_icmp_ge o (tgt := 129) dX12_matters_35 (by decide) (fun c11 => ?_) (fun c11 => ?_)
        · replace h := h.1 c11
          refine j_iload_n o dX12_matters_129 rfl ?_
          rw [hE]
          exact j_iret o dX12_matters_130 ⟨_, rfl, rfl, rfl, h⟩
        · replace h := h.2 c11
          refine j_iconst o (v := 0) dX12_matters_38 rfl ?_
          refine j_istore o [(5, .int 0), (0, .ref (P.1 1)), (1, .int a1), (2, .int a2), (3, .int x9), (4, .int x10)] dX12_matters_39 (by decide) rfl ?_
          refine j_iconst o (v := 0) dX12_matters_41 rfl ?_
          refine j_istore o [(6, .int 0), (5, .int 0), (0, .ref (P.1 1)), (1, .int a1), (2, .int a2), (3, .int x9), (4, .int x10)] dX12_matters_42 (by decide) rfl ?_
          replace h := h (fun (x12 : Int32) (x13 : Int32) => J X P (upM M 1 0 0) N 0 0 E 7 44 [(0, .ref (P.1 1)), (1, .int a1), (2, .int a2), (3, .int x9), (4, .int x10), (5, .int x12), (6, .int x13)] []) (by
            intro x12 x13 h
            refine j_iload o dX12_matters_44 rfl ?_
            refine j_aload_n o dX12_matters_46 rfl ?_
            refine j_getf o (g := 1) (slot := 2) (ci := 12) (v := .int ((upM M 1 0 0) 1 2)) rfl jin_X12 (by decide) rfl jf_X12_111 (fun _ => rfl) rfl dX12_matters_47 ?_
            refine j_icmp_ge o (tgt := 91) dX12_matters_50 (by decide) (fun c14 => ?_) (fun c14 => ?_)
            · replace h := h.1 c14
              refine j_iload_n o dX12_matters_91 rfl ?_
              refine j_iload_n o dX12_matters_92 rfl ?_
              replace h := h (fun (x15 : Int32) => J X P (upM M 1 0 0) N 0 0 E 7 121 [(0, .ref (P.1 1)), (1, .int a1), (2, .int a2), (4, .int x10)] [.int x15, .int x9]) (by
                intro x15 h
                refine j_ior o dX12_matters_121 ?_
                refine j_istore_n o [(3, .int (x9 ||| x15)), (0, .ref (P.1 1)), (1, .int a1), (2, .int a2), (4, .int x10)] dX12_matters_122 (by decide) rfl ?_
                refine j_iinc o (v := x10 + 1) [(4, .int (x10 + 1)), (3, .int (x9 ||| x15)), (0, .ref (P.1 1)), (1, .int a1), (2, .int a2)] dX12_matters_123 rfl rfl (by decide) rfl ?_
                refine j_goto o (tgt := 29) dX12_matters_126 (by decide) ?_
                exact j_pick [2, 3, 4, 1, 0] rfl h)
              replace h := h (J X P (upM M 1 0 0) N 0 0 E 7 113 [(0, .ref (P.1 1)), (1, .int a1), (2, .int a2), (4, .int x10)] [.int x9]) (by
                intro h
                refine j_iconst o (v := 1) dX12_matters_113 rfl ?_
                refine j_iload o dX12_matters_114 rfl ?_
                refine j_ishl o dX12_matters_116 ?_
                refine j_goto o (tgt := 121) dX12_matters_117 (by decide) ?_
                exact j_pick [0, 1, 2, 3] rfl h)
              refine j_if_ne o (tgt := 104) dX12_matters_93 (by decide) (fun c16 => ?_) (fun c16 => ?_)
              · replace h := h.1 c16
                refine j_iload o dX12_matters_104 rfl ?_
                refine j_aload_n o dX12_matters_106 rfl ?_
                refine j_getf o (g := 1) (slot := 2) (ci := 12) (v := .int ((upM M 1 0 0) 1 2)) rfl jin_X12 (by decide) rfl jf_X12_111 (fun _ => rfl) rfl dX12_matters_107 ?_
                refine j_icmp_ne o (tgt := 120) dX12_matters_110 (by decide) (fun c17 => ?_) (fun c17 => ?_)
                · replace h := h.1 c17
                  refine j_iconst o (v := 0) dX12_matters_120 rfl ?_
                  exact j_pick [0, 1, 2, 4] rfl h
                · replace h := h.2 c17
                  exact j_pick [0, 1, 2, 4] rfl h
              · replace h := h.2 c16
                refine j_iload o dX12_matters_96 rfl ?_
                refine j_if_le o (tgt := 120) dX12_matters_98 (by decide) (fun c18 => ?_) (fun c18 => ?_)
                · replace h := h.1 c18
                  refine j_iconst o (v := 0) dX12_matters_120 rfl ?_
                  exact j_pick [0, 1, 2, 4] rfl h
                · replace h := h.2 c18
                  refine j_goto o (tgt := 113) dX12_matters_101 (by decide) ?_
                  exact j_pick [0, 1, 2, 4] rfl h
            · replace h := h.2 c14
              refine j_iload o dX12_matters_53 rfl ?_
              refine j_aload_n o dX12_matters_55 rfl ?_
              refine j_iload_n o dX12_matters_56 rfl ?_
              refine j_iload o dX12_matters_57 rfl ?_
              refine j_callVi (g := 1) (ci := 12) o (c_X12_saidOn l P a1 x13 (upM M 1 0 0) N _ h) dX12_matters_59 jc_X12_239 jn_X12_saidOn rfl rfl rfl (fun _ => rfl) rfl rfl (fun r19 Mz20 Nz21 h => ?_)
              obtain ⟨rfl, rfl, h⟩ := h
              refine j_aload_n o dX12_matters_62 rfl ?_
              refine j_iload_n o dX12_matters_63 rfl ?_
              refine j_iload o dX12_matters_64 rfl ?_
              refine j_iconst o (v := 1) dX12_matters_66 rfl ?_
              refine j_iload o dX12_matters_67 rfl ?_
              refine j_ishl o dX12_matters_69 ?_
              refine j_ixor o dX12_matters_70 ?_
              refine j_callVi (g := 1) (ci := 12) o (c_X12_saidOn l P a1 (x13 ^^^ ((1 : Int32) <<< (x10 &&& 31))) (upM M 1 0 0) N _ h) dX12_matters_71 jc_X12_239 jn_X12_saidOn rfl rfl rfl (fun _ => rfl) rfl rfl (fun r22 Mz23 Nz24 h => ?_)
              obtain ⟨rfl, rfl, h⟩ := h
              replace h := h (fun (x25 : Int32) => J X P (upM M 1 0 0) N 0 0 E 7 82 [(0, .ref (P.1 1)), (1, .int a1), (2, .int a2), (3, .int x9), (4, .int x10), (6, .int x13)] [.int x25, .int x12]) (by
                intro x25 h
                refine j_iadd o dX12_matters_82 ?_
                refine j_istore o [(5, .int (x12 + x25)), (0, .ref (P.1 1)), (1, .int a1), (2, .int a2), (3, .int x9), (4, .int x10), (6, .int x13)] dX12_matters_83 (by decide) rfl ?_
                refine j_iinc o (v := x13 + 1) [(6, .int (x13 + 1)), (5, .int (x12 + x25)), (0, .ref (P.1 1)), (1, .int a1), (2, .int a2), (3, .int x9), (4, .int x10)] dX12_matters_85 rfl rfl (by decide) rfl ?_
                refine j_goto o (tgt := 44) dX12_matters_88 (by decide) ?_
                exact j_pick [2, 3, 4, 5, 6, 1, 0] rfl h)
              refine j_icmp_eq o (tgt := 81) dX12_matters_74 (by decide) (fun c26 => ?_) (fun c26 => ?_)
              · replace h := h.1 c26
                refine j_iconst o (v := 0) dX12_matters_81 rfl ?_
                exact j_pick [0, 1, 2, 3, 4, 6] rfl h
              · replace h := h.2 c26
                refine j_iconst o (v := 1) dX12_matters_77 rfl ?_
                refine j_goto o (tgt := 82) dX12_matters_78 (by decide) ?_
                exact j_pick [0, 1, 2, 3, 4, 6] rfl h)
          exact j_pick [2, 3, 4, 5, 6, 1, 0] rfl h)
      exact j_pick [2, 3, 4, 1, 0] rfl h
    · replace h := h.2 c8
      refine j_iconst o (v := (-1)) dX12_matters_22 rfl ?_
      rw [hE]
      exact j_iret o dX12_matters_23 ⟨_, rfl, rfl, rfl, h⟩

abbrev rm_X12_proof : Room := { frames := 2, cells := 0, slots := 0, locals := 47 }
def w_X12_proof (P : jP) (a1 : Int32) (a2 : Int32) (M : jM) (Q : Int32 → jM → Prop) : Prop :=
  w_X12_isLaw P a1 (upM M 1 0 0) (fun r1 =>
  (r1 = 0 → (
   Q (-1) (upM M 1 0 0)
  )) ∧ (¬ r1 = 0 → (
   w_X12_isCase P a2 (upM M 1 0 0) (fun r5 =>
   (¬ r5 = 0 → (
    ∀ R33 : Int32 → Int32 → Prop, (∀ (x9 : Int32) (x10 : Int32), (
     (((upM M 1 0 0) 1 2) ≤ x10 → (
      Q x9 (upM M 1 0 0)
     )) ∧ (¬ ((upM M 1 0 0) 1 2) ≤ x10 → (
      w_X12_isBefore P x10 x9 (fun r12 =>
      ∀ R70 : Int32 → Prop, (∀ (x15 : Int32), (
       R33 x15 (x10 + 1)
      ) → R70 x15) →
      (r12 = 0 → (
       R70 x9
      )) ∧ (¬ r12 = 0 → (
       w_X12_sureOf P a1 x10 (a2 &&& x10) (upM M 1 0 0) (fun r17 =>
       (r17 = (-2) → (
        R70 x9
       )) ∧ (¬ r17 = (-2) → (
        R70 x10
       )))
      )))
     ))
    ) → R33 x9 x10) →
    R33 (((upM M 1 0 0) 1 2) - 1) 0
   )) ∧ (r5 = 0 → (
    Q (-1) (upM M 1 0 0)
   )))
  )))
set_option maxRecDepth 20000 in
theorem c_X12_proof (l : Launch) (P : jP) (a1 : Int32) (a2 : Int32) (M : jM) (N : jN) (Q : Int32 → jM → Prop) (h : w_X12_proof P a1 a2 M Q) : jC l yX12_proof cX12_proof 5 (some .int) rm_X12_proof LM [.ref (P.1 1), .int a1, .int a2] P M N (jqi P (fun r M' N' => N = N' ∧ Q r M' )) := by
  refine jC_of (by decide +kernel) [(0, .ref (P.1 1)), (1, .int a1), (2, .int a2)] (Nat.le_of_ble_eq_true rfl) rfl (fun X o => ?_)
  obtain ⟨E, hE⟩ : ∃ E, E = jE X rm_X12_proof (jqi P (fun r M' N' => N = N' ∧ Q r M' )) := ⟨_, rfl⟩
  rw [← hE]
  unfold w_X12_proof at h
  refine j_aload_n o dX12_proof_0 rfl ?_
  refine j_iconst o (v := 0) dX12_proof_1 rfl ?_
  refine j_putf o (M1 := upM M 1 0 0) (N1 := N) (g := 1) (slot := 0) (ci := 12) (ty := .int) rfl jin_X12 tyX12_ok nmX12 (by decide) rfl rfl jf_X12_114 (by decide +kernel) rfl rfl (Nat.le_of_ble_eq_true rfl) (fun _ => rfl) (fun _ => rfl) (fun _ hj => upM_ne _ _ _ hj) (fun _ _ => rfl) dX12_proof_2 ?_
  refine j_aload_n o dX12_proof_5 rfl ?_
  refine j_iload_n o dX12_proof_6 rfl ?_
  refine j_callVi (g := 1) (ci := 12) o (c_X12_isLaw l P a1 (upM M 1 0 0) N _ h) dX12_proof_7 jc_X12_233 jn_X12_isLaw rfl rfl rfl (fun _ => rfl) rfl rfl (fun r1 Mz2 Nz3 h => ?_)
  obtain ⟨rfl, rfl, h⟩ := h
  refine j_if_eq o (tgt := 21) dX12_proof_10 (by decide) (fun c4 => ?_) (fun c4 => ?_)
  · replace h := h.1 c4
    refine j_iconst o (v := (-1)) dX12_proof_21 rfl ?_
    rw [hE]
    exact j_iret o dX12_proof_22 ⟨_, rfl, rfl, rfl, h⟩
  · replace h := h.2 c4
    refine j_aload_n o dX12_proof_13 rfl ?_
    refine j_iload_n o dX12_proof_14 rfl ?_
    refine j_callVi (g := 1) (ci := 12) o (c_X12_isCase l P a2 (upM M 1 0 0) N _ h) dX12_proof_15 jc_X12_236 jn_X12_isCase rfl rfl rfl (fun _ => rfl) rfl rfl (fun r5 Mz6 Nz7 h => ?_)
    obtain ⟨rfl, rfl, h⟩ := h
    refine j_if_ne o (tgt := 23) dX12_proof_18 (by decide) (fun c8 => ?_) (fun c8 => ?_)
    · replace h := h.1 c8
      refine j_aload_n o dX12_proof_23 rfl ?_
      refine j_getf o (g := 1) (slot := 2) (ci := 12) (v := .int ((upM M 1 0 0) 1 2)) rfl jin_X12 (by decide) rfl jf_X12_111 (fun _ => rfl) rfl dX12_proof_24 ?_
      refine j_iconst o (v := 1) dX12_proof_27 rfl ?_
      refine j_isub o dX12_proof_28 ?_
      refine j_istore_n o [(3, .int (((upM M 1 0 0) 1 2) - 1)), (0, .ref (P.1 1)), (1, .int a1), (2, .int a2)] dX12_proof_29 (by decide) rfl ?_
      refine j_iconst o (v := 0) dX12_proof_30 rfl ?_
      refine j_istore o [(4, .int 0), (3, .int (((upM M 1 0 0) 1 2) - 1)), (0, .ref (P.1 1)), (1, .int a1), (2, .int a2)] dX12_proof_31 (by decide) rfl ?_
      replace h := h (fun (x9 : Int32) (x10 : Int32) => J X P (upM M 1 0 0) N 0 0 E 5 33 [(0, .ref (P.1 1)), (1, .int a1), (2, .int a2), (3, .int x9), (4, .int x10)] []) (by
        intro x9 x10 h
        refine j_iload o dX12_proof_33 rfl ?_
        refine j_aload_n o dX12_proof_35 rfl ?_
        refine j_getf o (g := 1) (slot := 2) (ci := 12) (v := .int ((upM M 1 0 0) 1 2)) rfl jin_X12 (by decide) rfl jf_X12_111 (fun _ => rfl) rfl dX12_proof_36 ?_
        refine j_icmp_ge o (tgt := 76) dX12_proof_39 (by decide) (fun c11 => ?_) (fun c11 => ?_)
        · replace h := h.1 c11
          refine j_iload_n o dX12_proof_76 rfl ?_
          rw [hE]
          exact j_iret o dX12_proof_77 ⟨_, rfl, rfl, rfl, h⟩
        · replace h := h.2 c11
          refine j_iload o dX12_proof_42 rfl ?_
          refine j_iload_n o dX12_proof_44 rfl ?_
          refine j_callSi o (c_X12_isBefore l P x10 x9 (upM M 1 0 0) N _ h) dX12_proof_45 jc_X12_252 jn_X12_isBefore rfl rfl rfl rfl (fun r12 Mz13 Nz14 h => ?_)
          obtain ⟨rfl, rfl, h⟩ := h
          replace h := h (fun (x15 : Int32) => J X P (upM M 1 0 0) N 0 0 E 5 70 [(0, .ref (P.1 1)), (1, .int a1), (2, .int a2), (3, .int x15), (4, .int x10)] []) (by
            intro x15 h
            refine j_iinc o (v := x10 + 1) [(4, .int (x10 + 1)), (0, .ref (P.1 1)), (1, .int a1), (2, .int a2), (3, .int x15)] dX12_proof_70 rfl rfl (by decide) rfl ?_
            refine j_goto o (tgt := 33) dX12_proof_73 (by decide) ?_
            exact j_pick [1, 2, 3, 4, 0] rfl h)
          refine j_if_eq o (tgt := 70) dX12_proof_48 (by decide) (fun c16 => ?_) (fun c16 => ?_)
          · replace h := h.1 c16
            exact j_pick [0, 1, 2, 3, 4] rfl h
          · replace h := h.2 c16
            refine j_aload_n o dX12_proof_51 rfl ?_
            refine j_iload_n o dX12_proof_52 rfl ?_
            refine j_iload o dX12_proof_53 rfl ?_
            refine j_iload_n o dX12_proof_55 rfl ?_
            refine j_iload o dX12_proof_56 rfl ?_
            refine j_iand o dX12_proof_58 ?_
            refine j_callVi (g := 1) (ci := 12) o (c_X12_sureOf l P a1 x10 (a2 &&& x10) (upM M 1 0 0) N _ h) dX12_proof_59 jc_X12_248 jn_X12_sureOf rfl rfl rfl (fun _ => rfl) rfl rfl (fun r17 Mz18 Nz19 h => ?_)
            obtain ⟨rfl, rfl, h⟩ := h
            refine j_bipush o (v := (-2)) dX12_proof_62 rfl ?_
            refine j_icmp_eq o (tgt := 70) dX12_proof_64 (by decide) (fun c20 => ?_) (fun c20 => ?_)
            · replace h := h.1 c20
              exact j_pick [0, 1, 2, 3, 4] rfl h
            · replace h := h.2 c20
              refine j_iload o dX12_proof_67 rfl ?_
              refine j_istore_n o [(3, .int x10), (0, .ref (P.1 1)), (1, .int a1), (2, .int a2), (4, .int x10)] dX12_proof_69 (by decide) rfl ?_
              exact j_pick [1, 2, 3, 0, 4] rfl h)
      exact j_pick [2, 3, 4, 1, 0] rfl h
    · replace h := h.2 c8
      refine j_iconst o (v := (-1)) dX12_proof_21 rfl ?_
      rw [hE]
      exact j_iret o dX12_proof_22 ⟨_, rfl, rfl, rfl, h⟩

abbrev rm_X12_parts : Room := { frames := 1, cells := 0, slots := 0, locals := 22 }
def w_X12_parts (P : jP) (a1 : Int32) (a2 : Int32) (a3 : Int32) (M : jM) (Q : Int32 → jM → Prop) : Prop :=
  w_X12_isLaw P a1 (upM M 1 0 0) (fun r1 =>
  (r1 = 0 → (
   Q (-1) (upM M 1 0 0)
  )) ∧ (¬ r1 = 0 → (
   w_X12_isLaw P a2 (upM M 1 0 0) (fun r5 =>
   (¬ r5 = 0 → (
    ∀ R29 : Int32 → Int32 → Prop, (∀ (x9 : Int32) (x10 : Int32), (
     (((upM M 1 0 0) 1 2) ≤ x10 → (
      (¬ a3 = (-1) → (
       Q (-1) (upM M 1 0 0)
      )) ∧ (a3 = (-1) → (
       Q x9 (upM M 1 0 0)
      ))
     )) ∧ (¬ ((upM M 1 0 0) 1 2) ≤ x10 → (
      w_X12_saidOn P a1 x10 (upM M 1 0 0) (fun r13 =>
      w_X12_saidOn P a2 x10 (upM M 1 0 0) (fun r16 =>
      ∀ R70 : Int32 → Prop, (∀ (x19 : Int32), (
       R29 x19 (x10 + 1)
      ) → R70 x19) →
      (¬ r13 = r16 → (
       (¬ x9 = a3 → (
        R70 (x9 + 1)
       )) ∧ (x9 = a3 → (
        Q x10 (upM M 1 0 0)
       ))
      )) ∧ (r13 = r16 → (
       R70 x9
      ))))
     ))
    ) → R29 x9 x10) →
    R29 0 0
   )) ∧ (r5 = 0 → (
    Q (-1) (upM M 1 0 0)
   )))
  )))
set_option maxRecDepth 20000 in
theorem c_X12_parts (l : Launch) (P : jP) (a1 : Int32) (a2 : Int32) (a3 : Int32) (M : jM) (N : jN) (Q : Int32 → jM → Prop) (h : w_X12_parts P a1 a2 a3 M Q) : jC l yX12_parts cX12_parts 6 (some .int) rm_X12_parts LM [.ref (P.1 1), .int a1, .int a2, .int a3] P M N (jqi P (fun r M' N' => N = N' ∧ Q r M' )) := by
  refine jC_of (by decide +kernel) [(0, .ref (P.1 1)), (1, .int a1), (2, .int a2), (3, .int a3)] (Nat.le_of_ble_eq_true rfl) rfl (fun X o => ?_)
  obtain ⟨E, hE⟩ : ∃ E, E = jE X rm_X12_parts (jqi P (fun r M' N' => N = N' ∧ Q r M' )) := ⟨_, rfl⟩
  rw [← hE]
  unfold w_X12_parts at h
  refine j_aload_n o dX12_parts_0 rfl ?_
  refine j_iconst o (v := 0) dX12_parts_1 rfl ?_
  refine j_putf o (M1 := upM M 1 0 0) (N1 := N) (g := 1) (slot := 0) (ci := 12) (ty := .int) rfl jin_X12 tyX12_ok nmX12 (by decide) rfl rfl jf_X12_114 (by decide +kernel) rfl rfl (Nat.le_of_ble_eq_true rfl) (fun _ => rfl) (fun _ => rfl) (fun _ hj => upM_ne _ _ _ hj) (fun _ _ => rfl) dX12_parts_2 ?_
  refine j_aload_n o dX12_parts_5 rfl ?_
  refine j_iload_n o dX12_parts_6 rfl ?_
  refine j_callVi (g := 1) (ci := 12) o (c_X12_isLaw l P a1 (upM M 1 0 0) N _ h) dX12_parts_7 jc_X12_233 jn_X12_isLaw rfl rfl rfl (fun _ => rfl) rfl rfl (fun r1 Mz2 Nz3 h => ?_)
  obtain ⟨rfl, rfl, h⟩ := h
  refine j_if_eq o (tgt := 21) dX12_parts_10 (by decide) (fun c4 => ?_) (fun c4 => ?_)
  · replace h := h.1 c4
    refine j_iconst o (v := (-1)) dX12_parts_21 rfl ?_
    rw [hE]
    exact j_iret o dX12_parts_22 ⟨_, rfl, rfl, rfl, h⟩
  · replace h := h.2 c4
    refine j_aload_n o dX12_parts_13 rfl ?_
    refine j_iload_n o dX12_parts_14 rfl ?_
    refine j_callVi (g := 1) (ci := 12) o (c_X12_isLaw l P a2 (upM M 1 0 0) N _ h) dX12_parts_15 jc_X12_233 jn_X12_isLaw rfl rfl rfl (fun _ => rfl) rfl rfl (fun r5 Mz6 Nz7 h => ?_)
    obtain ⟨rfl, rfl, h⟩ := h
    refine j_if_ne o (tgt := 23) dX12_parts_18 (by decide) (fun c8 => ?_) (fun c8 => ?_)
    · replace h := h.1 c8
      refine j_iconst o (v := 0) dX12_parts_23 rfl ?_
      refine j_istore o [(4, .int 0), (0, .ref (P.1 1)), (1, .int a1), (2, .int a2), (3, .int a3)] dX12_parts_24 (by decide) rfl ?_
      refine j_iconst o (v := 0) dX12_parts_26 rfl ?_
      refine j_istore o [(5, .int 0), (4, .int 0), (0, .ref (P.1 1)), (1, .int a1), (2, .int a2), (3, .int a3)] dX12_parts_27 (by decide) rfl ?_
      replace h := h (fun (x9 : Int32) (x10 : Int32) => J X P (upM M 1 0 0) N 0 0 E 6 29 [(0, .ref (P.1 1)), (1, .int a1), (2, .int a2), (3, .int a3), (4, .int x9), (5, .int x10)] []) (by
        intro x9 x10 h
        refine j_iload o dX12_parts_29 rfl ?_
        refine j_aload_n o dX12_parts_31 rfl ?_
        refine j_getf o (g := 1) (slot := 2) (ci := 12) (v := .int ((upM M 1 0 0) 1 2)) rfl jin_X12 (by decide) rfl jf_X12_111 (fun _ => rfl) rfl dX12_parts_32 ?_
        refine j_icmp_ge o (tgt := 76) dX12_parts_35 (by decide) (fun c11 => ?_) (fun c11 => ?_)
        · replace h := h.1 c11
          refine j_iload_n o dX12_parts_76 rfl ?_
          refine j_iconst o (v := (-1)) dX12_parts_77 rfl ?_
          refine j_icmp_ne o (tgt := 86) dX12_parts_78 (by decide) (fun c12 => ?_) (fun c12 => ?_)
          · replace h := h.1 c12
            refine j_iconst o (v := (-1)) dX12_parts_86 rfl ?_
            rw [hE]
            exact j_iret o dX12_parts_87 ⟨_, rfl, rfl, rfl, h⟩
          · replace h := h.2 c12
            refine j_iload o dX12_parts_81 rfl ?_
            refine j_goto o (tgt := 87) dX12_parts_83 (by decide) ?_
            rw [hE]
            exact j_iret o dX12_parts_87 ⟨_, rfl, rfl, rfl, h⟩
        · replace h := h.2 c11
          refine j_aload_n o dX12_parts_38 rfl ?_
          refine j_iload_n o dX12_parts_39 rfl ?_
          refine j_iload o dX12_parts_40 rfl ?_
          refine j_callVi (g := 1) (ci := 12) o (c_X12_saidOn l P a1 x10 (upM M 1 0 0) N _ h) dX12_parts_42 jc_X12_239 jn_X12_saidOn rfl rfl rfl (fun _ => rfl) rfl rfl (fun r13 Mz14 Nz15 h => ?_)
          obtain ⟨rfl, rfl, h⟩ := h
          refine j_aload_n o dX12_parts_45 rfl ?_
          refine j_iload_n o dX12_parts_46 rfl ?_
          refine j_iload o dX12_parts_47 rfl ?_
          refine j_callVi (g := 1) (ci := 12) o (c_X12_saidOn l P a2 x10 (upM M 1 0 0) N _ h) dX12_parts_49 jc_X12_239 jn_X12_saidOn rfl rfl rfl (fun _ => rfl) rfl rfl (fun r16 Mz17 Nz18 h => ?_)
          obtain ⟨rfl, rfl, h⟩ := h
          replace h := h (fun (x19 : Int32) => J X P (upM M 1 0 0) N 0 0 E 6 70 [(0, .ref (P.1 1)), (1, .int a1), (2, .int a2), (3, .int a3), (4, .int x19), (5, .int x10)] []) (by
            intro x19 h
            refine j_iinc o (v := x10 + 1) [(5, .int (x10 + 1)), (0, .ref (P.1 1)), (1, .int a1), (2, .int a2), (3, .int a3), (4, .int x19)] dX12_parts_70 rfl rfl (by decide) rfl ?_
            refine j_goto o (tgt := 29) dX12_parts_73 (by decide) ?_
            exact j_pick [1, 2, 3, 4, 5, 0] rfl h)
          refine j_icmp_ne o (tgt := 58) dX12_parts_52 (by decide) (fun c20 => ?_) (fun c20 => ?_)
          · replace h := h.1 c20
            refine j_iload o dX12_parts_58 rfl ?_
            refine j_iload_n o dX12_parts_60 rfl ?_
            refine j_icmp_ne o (tgt := 67) dX12_parts_61 (by decide) (fun c21 => ?_) (fun c21 => ?_)
            · replace h := h.1 c21
              refine j_iinc o (v := x9 + 1) [(4, .int (x9 + 1)), (0, .ref (P.1 1)), (1, .int a1), (2, .int a2), (3, .int a3), (5, .int x10)] dX12_parts_67 rfl rfl (by decide) rfl ?_
              exact j_pick [1, 2, 3, 4, 0, 5] rfl h
            · replace h := h.2 c21
              refine j_iload o dX12_parts_64 rfl ?_
              rw [hE]
              exact j_iret o dX12_parts_66 ⟨_, rfl, rfl, rfl, h⟩
          · replace h := h.2 c20
            refine j_goto o (tgt := 70) dX12_parts_55 (by decide) ?_
            exact j_pick [0, 1, 2, 3, 4, 5] rfl h)
      exact j_pick [2, 3, 4, 5, 1, 0] rfl h
    · replace h := h.2 c8
      refine j_iconst o (v := (-1)) dX12_parts_21 rfl ?_
      rw [hE]
      exact j_iret o dX12_parts_22 ⟨_, rfl, rfl, rfl, h⟩

abbrev rm_X12_nextOf : Room := { frames := 0, cells := 0, slots := 0, locals := 0 }
def w_X12_nextOf (P : jP) (a1 : Int32) (a2 : Int32) (a3 : Int32) (M : jM) (Q : Int32 → Prop) : Prop :=
  (a3 = 0 → (
   vp_in ((12 * a1) + a2) (84) ∧
   Q (M 6 ((12 * a1) + a2).toNatClampNeg)
  )) ∧ (¬ a3 = 0 → (
   vp_in ((12 * a1) + a2) (84) ∧
   Q (M 5 ((12 * a1) + a2).toNatClampNeg)
  ))
set_option maxRecDepth 20000 in
theorem c_X12_nextOf (l : Launch) (P : jP) (a1 : Int32) (a2 : Int32) (a3 : Int32) (M : jM) (N : jN) (Q : Int32 → Prop) (h : w_X12_nextOf P a1 a2 a3 M Q) : jC l yX12_nextOf cX12_nextOf 4 (some .int) rm_X12_nextOf LM [.ref (P.1 1), .int a1, .int a2, .int a3] P M N (jqi P (fun r M' N' => M = M' ∧ N = N' ∧ Q r )) := by
  refine jC_of (by decide +kernel) [(0, .ref (P.1 1)), (1, .int a1), (2, .int a2), (3, .int a3)] (Nat.le_of_ble_eq_true rfl) rfl (fun X o => ?_)
  obtain ⟨E, hE⟩ : ∃ E, E = jE X rm_X12_nextOf (jqi P (fun r M' N' => M = M' ∧ N = N' ∧ Q r )) := ⟨_, rfl⟩
  rw [← hE]
  unfold w_X12_nextOf at h
  refine j_iload_n o dX12_nextOf_0 rfl ?_
  refine j_if_eq o (tgt := 18) dX12_nextOf_1 (by decide) (fun c1 => ?_) (fun c1 => ?_)
  · replace h := h.1 c1
    refine j_aload_n o dX12_nextOf_18 rfl ?_
    refine j_getf o (g := 1) (slot := 14) (ci := 12) (v := .ref (P.1 6)) rfl jin_X12 (by decide) rfl jf_X12_23 (fun _ => rfl) rfl dX12_nextOf_19 ?_
    refine j_bipush o (v := 12) dX12_nextOf_22 rfl ?_
    refine j_iload_n o dX12_nextOf_24 rfl ?_
    refine j_imul o dX12_nextOf_25 ?_
    refine j_iload_n o dX12_nextOf_26 rfl ?_
    refine j_iadd o dX12_nextOf_27 ?_
    obtain ⟨hb2, h⟩ := h
    refine j_iald o (g := 6) (fun _ => rfl) hb2 dX12_nextOf_28 ?_
    rw [hE]
    exact j_iret o dX12_nextOf_29 ⟨_, rfl, rfl, rfl, rfl, h⟩
  · replace h := h.2 c1
    refine j_aload_n o dX12_nextOf_4 rfl ?_
    refine j_getf o (g := 1) (slot := 13) (ci := 12) (v := .ref (P.1 5)) rfl jin_X12 (by decide) rfl jf_X12_20 (fun _ => rfl) rfl dX12_nextOf_5 ?_
    refine j_bipush o (v := 12) dX12_nextOf_8 rfl ?_
    refine j_iload_n o dX12_nextOf_10 rfl ?_
    refine j_imul o dX12_nextOf_11 ?_
    refine j_iload_n o dX12_nextOf_12 rfl ?_
    refine j_iadd o dX12_nextOf_13 ?_
    obtain ⟨hb3, h⟩ := h
    refine j_iald o (g := 5) (fun _ => rfl) hb3 dX12_nextOf_14 ?_
    refine j_goto o (tgt := 29) dX12_nextOf_15 (by decide) ?_
    rw [hE]
    exact j_iret o dX12_nextOf_29 ⟨_, rfl, rfl, rfl, rfl, h⟩

abbrev rm_X12_factOf : Room := { frames := 0, cells := 0, slots := 0, locals := 0 }
def w_X12_factOf (P : jP) (a1 : Int32) (a2 : Int32) (M : jM) (Q : Int32 → Prop) : Prop :=
  vp_in ((12 * a1) + a2) (84) ∧
  Q (M 4 ((12 * a1) + a2).toNatClampNeg)
set_option maxRecDepth 20000 in
theorem c_X12_factOf (l : Launch) (P : jP) (a1 : Int32) (a2 : Int32) (M : jM) (N : jN) (Q : Int32 → Prop) (h : w_X12_factOf P a1 a2 M Q) : jC l yX12_factOf cX12_factOf 3 (some .int) rm_X12_factOf LM [.ref (P.1 1), .int a1, .int a2] P M N (jqi P (fun r M' N' => M = M' ∧ N = N' ∧ Q r )) := by
  refine jC_of (by decide +kernel) [(0, .ref (P.1 1)), (1, .int a1), (2, .int a2)] (Nat.le_of_ble_eq_true rfl) rfl (fun X o => ?_)
  obtain ⟨E, hE⟩ : ∃ E, E = jE X rm_X12_factOf (jqi P (fun r M' N' => M = M' ∧ N = N' ∧ Q r )) := ⟨_, rfl⟩
  rw [← hE]
  unfold w_X12_factOf at h
  refine j_aload_n o dX12_factOf_0 rfl ?_
  refine j_getf o (g := 1) (slot := 12) (ci := 12) (v := .ref (P.1 4)) rfl jin_X12 (by decide) rfl jf_X12_17 (fun _ => rfl) rfl dX12_factOf_1 ?_
  refine j_bipush o (v := 12) dX12_factOf_4 rfl ?_
  refine j_iload_n o dX12_factOf_6 rfl ?_
  refine j_imul o dX12_factOf_7 ?_
  refine j_iload_n o dX12_factOf_8 rfl ?_
  refine j_iadd o dX12_factOf_9 ?_
  obtain ⟨hb1, h⟩ := h
  refine j_iald o (g := 4) (fun _ => rfl) hb1 dX12_factOf_10 ?_
  rw [hE]
  exact j_iret o dX12_factOf_11 ⟨_, rfl, rfl, rfl, rfl, h⟩

abbrev rm_X12_leadsOn : Room := { frames := 1, cells := 0, slots := 0, locals := 23 }
def w_X12_leadsOn (P : jP) (a1 : Int32) (a2 : Int32) (M : jM) (Q : Int32 → Prop) : Prop :=
  ∀ R2 : Int32 → Prop, (∀ (x1 : Int32), (
   (12 ≤ x1 → (
    Q (x1 - 100)
   )) ∧ (¬ 12 ≤ x1 → (
    w_X12_factOf P a1 x1 M (fun r3 =>
    w_X12_has P a2 r3 (fun r6 =>
    w_X12_nextOf P a1 x1 r6 M (fun r9 =>
    R2 r9)))
   ))
  ) → R2 x1) →
  R2 0
set_option maxRecDepth 20000 in
theorem c_X12_leadsOn (l : Launch) (P : jP) (a1 : Int32) (a2 : Int32) (M : jM) (N : jN) (Q : Int32 → Prop) (h : w_X12_leadsOn P a1 a2 M Q) : jC l yX12_leadsOn cX12_leadsOn 4 (some .int) rm_X12_leadsOn LM [.ref (P.1 1), .int a1, .int a2] P M N (jqi P (fun r M' N' => M = M' ∧ N = N' ∧ Q r )) := by
  refine jC_of (by decide +kernel) [(0, .ref (P.1 1)), (1, .int a1), (2, .int a2)] (Nat.le_of_ble_eq_true rfl) rfl (fun X o => ?_)
  obtain ⟨E, hE⟩ : ∃ E, E = jE X rm_X12_leadsOn (jqi P (fun r M' N' => M = M' ∧ N = N' ∧ Q r )) := ⟨_, rfl⟩
  rw [← hE]
  unfold w_X12_leadsOn at h
  refine j_iconst o (v := 0) dX12_leadsOn_0 rfl ?_
  refine j_istore_n o [(3, .int 0), (0, .ref (P.1 1)), (1, .int a1), (2, .int a2)] dX12_leadsOn_1 (by decide) rfl ?_
  replace h := h (fun (x1 : Int32) => J X P M N 0 0 E 4 2 [(0, .ref (P.1 1)), (1, .int a1), (2, .int a2), (3, .int x1)] []) (by
    intro x1 h
    refine j_iload_n o dX12_leadsOn_2 rfl ?_
    refine j_bipush o (v := 12) dX12_leadsOn_3 rfl ?_
    refine j_icmp_ge o (tgt := 28) dX12_leadsOn_5 (by decide) (fun c2 => ?_) (fun c2 => ?_)
    · replace h := h.1 c2
      refine j_iload_n o dX12_leadsOn_28 rfl ?_
      refine j_bipush o (v := 100) dX12_leadsOn_29 rfl ?_
      refine j_isub o dX12_leadsOn_31 ?_
      rw [hE]
      exact j_iret o dX12_leadsOn_32 ⟨_, rfl, rfl, rfl, rfl, h⟩
    · replace h := h.2 c2
      refine j_aload_n o dX12_leadsOn_8 rfl ?_
      refine j_iload_n o dX12_leadsOn_9 rfl ?_
      refine j_iload_n o dX12_leadsOn_10 rfl ?_
      refine j_iload_n o dX12_leadsOn_11 rfl ?_
      refine j_aload_n o dX12_leadsOn_12 rfl ?_
      refine j_iload_n o dX12_leadsOn_13 rfl ?_
      refine j_iload_n o dX12_leadsOn_14 rfl ?_
      refine j_callVi (g := 1) (ci := 12) o (c_X12_factOf l P a1 x1 M N _ h) dX12_leadsOn_15 jc_X12_255 jn_X12_factOf rfl rfl rfl (fun _ => rfl) rfl rfl (fun r3 Mz4 Nz5 h => ?_)
      obtain ⟨rfl, rfl, h⟩ := h
      refine j_callSi o (c_X12_has l P a2 r3 M N _ h) dX12_leadsOn_18 jc_X12_157 jn_X12_has rfl rfl rfl rfl (fun r6 Mz7 Nz8 h => ?_)
      obtain ⟨rfl, rfl, h⟩ := h
      refine j_callVi (g := 1) (ci := 12) o (c_X12_nextOf l P a1 x1 r6 M N _ h) dX12_leadsOn_21 jc_X12_258 jn_X12_nextOf rfl rfl rfl (fun _ => rfl) rfl rfl (fun r9 Mz10 Nz11 h => ?_)
      obtain ⟨rfl, rfl, h⟩ := h
      refine j_istore_n o [(3, .int r9), (0, .ref (P.1 1)), (1, .int a1), (2, .int a2)] dX12_leadsOn_24 (by decide) rfl ?_
      refine j_goto o (tgt := 2) dX12_leadsOn_25 (by decide) ?_
      exact j_pick [1, 2, 3, 0] rfl h)
  exact j_pick [1, 2, 3, 0] rfl h

abbrev rm_X12_leads : Room := { frames := 2, cells := 0, slots := 0, locals := 46 }
def w_X12_leads (P : jP) (a1 : Int32) (a2 : Int32) (M : jM) (Q : Int32 → jM → Prop) : Prop :=
  w_X12_isForm P a1 M (fun r1 =>
  ∀ R22 : Int32 → Prop, (∀ (x4 : Int32), (
   (((upM M 1 0 x4) 1 0) ≤ 0 → (
    w_X12_leadsOn P a1 a2 (upM M 1 0 x4) (fun r6 =>
    Q r6 (upM M 1 0 x4))
   )) ∧ (¬ ((upM M 1 0 x4) 1 0) ≤ 0 → (
    Q 0 (upM M 1 0 x4)
   ))
  ) → R22 x4) →
  (r1 = 0 → (
   R22 1
  )) ∧ (¬ r1 = 0 → (
   w_X12_isCase P a2 M (fun r10 =>
   (r10 = 0 → (
    R22 1
   )) ∧ (¬ r10 = 0 → (
    R22 0
   )))
  )))
set_option maxRecDepth 20000 in
theorem c_X12_leads (l : Launch) (P : jP) (a1 : Int32) (a2 : Int32) (M : jM) (N : jN) (Q : Int32 → jM → Prop) (h : w_X12_leads P a1 a2 M Q) : jC l yX12_leads cX12_leads 3 (some .int) rm_X12_leads LM [.ref (P.1 1), .int a1, .int a2] P M N (jqi P (fun r M' N' => N = N' ∧ Q r M' )) := by
  refine jC_of (by decide +kernel) [(0, .ref (P.1 1)), (1, .int a1), (2, .int a2)] (Nat.le_of_ble_eq_true rfl) rfl (fun X o => ?_)
  obtain ⟨E, hE⟩ : ∃ E, E = jE X rm_X12_leads (jqi P (fun r M' N' => N = N' ∧ Q r M' )) := ⟨_, rfl⟩
  rw [← hE]
  unfold w_X12_leads at h
  refine j_aload_n o dX12_leads_0 rfl ?_
  refine j_aload_n o dX12_leads_1 rfl ?_
  refine j_iload_n o dX12_leads_2 rfl ?_
  refine j_callVi (g := 1) (ci := 12) o (c_X12_isForm l P a1 M N _ h) dX12_leads_3 jc_X12_262 jn_X12_isForm rfl rfl rfl (fun _ => rfl) rfl rfl (fun r1 Mz2 Nz3 h => ?_)
  obtain ⟨rfl, rfl, h⟩ := h
  replace h := h (fun (x4 : Int32) => J X P M N 0 0 E 3 22 [(0, .ref (P.1 1)), (1, .int a1), (2, .int a2)] [.int x4, .ref (P.1 1)]) (by
    intro x4 h
    refine j_putf o (M1 := upM M 1 0 x4) (N1 := N) (g := 1) (slot := 0) (ci := 12) (ty := .int) rfl jin_X12 tyX12_ok nmX12 (by decide) rfl rfl jf_X12_114 (by decide +kernel) rfl rfl (Nat.le_of_ble_eq_true rfl) (fun _ => rfl) (fun _ => rfl) (fun _ hj => upM_ne _ _ _ hj) (fun _ _ => rfl) dX12_leads_22 ?_
    refine j_aload_n o dX12_leads_25 rfl ?_
    refine j_getf o (g := 1) (slot := 0) (ci := 12) (v := .int ((upM M 1 0 x4) 1 0)) rfl jin_X12 (by decide) rfl jf_X12_114 (fun _ => rfl) rfl dX12_leads_26 ?_
    refine j_if_le o (tgt := 36) dX12_leads_29 (by decide) (fun c5 => ?_) (fun c5 => ?_)
    · replace h := h.1 c5
      refine j_aload_n o dX12_leads_36 rfl ?_
      refine j_iload_n o dX12_leads_37 rfl ?_
      refine j_iload_n o dX12_leads_38 rfl ?_
      refine j_callVi (g := 1) (ci := 12) o (c_X12_leadsOn l P a1 a2 (upM M 1 0 x4) N _ h) dX12_leads_39 jc_X12_265 jn_X12_leadsOn rfl rfl rfl (fun _ => rfl) rfl rfl (fun r6 Mz7 Nz8 h => ?_)
      obtain ⟨rfl, rfl, h⟩ := h
      rw [hE]
      exact j_iret o dX12_leads_42 ⟨_, rfl, rfl, rfl, h⟩
    · replace h := h.2 c5
      refine j_iconst o (v := 0) dX12_leads_32 rfl ?_
      refine j_goto o (tgt := 42) dX12_leads_33 (by decide) ?_
      rw [hE]
      exact j_iret o dX12_leads_42 ⟨_, rfl, rfl, rfl, h⟩)
  refine j_if_eq o (tgt := 21) dX12_leads_6 (by decide) (fun c9 => ?_) (fun c9 => ?_)
  · replace h := h.1 c9
    refine j_iconst o (v := 1) dX12_leads_21 rfl ?_
    exact j_pick [0, 1, 2] rfl h
  · replace h := h.2 c9
    refine j_aload_n o dX12_leads_9 rfl ?_
    refine j_iload_n o dX12_leads_10 rfl ?_
    refine j_callVi (g := 1) (ci := 12) o (c_X12_isCase l P a2 M N _ h) dX12_leads_11 jc_X12_236 jn_X12_isCase rfl rfl rfl (fun _ => rfl) rfl rfl (fun r10 Mz11 Nz12 h => ?_)
    obtain ⟨rfl, rfl, h⟩ := h
    refine j_if_eq o (tgt := 21) dX12_leads_14 (by decide) (fun c13 => ?_) (fun c13 => ?_)
    · replace h := h.1 c13
      refine j_iconst o (v := 1) dX12_leads_21 rfl ?_
      exact j_pick [0, 1, 2] rfl h
    · replace h := h.2 c13
      refine j_iconst o (v := 0) dX12_leads_17 rfl ?_
      refine j_goto o (tgt := 22) dX12_leads_18 (by decide) ?_
      exact j_pick [0, 1, 2] rfl h

abbrev rm_X12_apart : Room := { frames := 2, cells := 0, slots := 0, locals := 46 }
def w_X12_apart (P : jP) (a1 : Int32) (a2 : Int32) (a3 : Int32) (M : jM) (Q : Int32 → jM → Prop) : Prop :=
  w_X12_isForm P a1 (upM M 1 0 0) (fun r1 =>
  (r1 = 0 → (
   Q (-1) (upM M 1 0 0)
  )) ∧ (¬ r1 = 0 → (
   w_X12_isLaw P a2 (upM M 1 0 0) (fun r5 =>
   (¬ r5 = 0 → (
    ∀ R29 : Int32 → Int32 → Prop, (∀ (x9 : Int32) (x10 : Int32), (
     (((upM M 1 0 0) 1 2) ≤ x10 → (
      (¬ a3 = (-1) → (
       Q (-1) (upM M 1 0 0)
      )) ∧ (a3 = (-1) → (
       Q x9 (upM M 1 0 0)
      ))
     )) ∧ (¬ ((upM M 1 0 0) 1 2) ≤ x10 → (
      w_X12_leadsOn P a1 x10 (upM M 1 0 0) (fun r13 =>
      w_X12_saidOn P a2 x10 (upM M 1 0 0) (fun r16 =>
      ∀ R70 : Int32 → Prop, (∀ (x19 : Int32), (
       R29 x19 (x10 + 1)
      ) → R70 x19) →
      (¬ r13 = r16 → (
       (¬ x9 = a3 → (
        R70 (x9 + 1)
       )) ∧ (x9 = a3 → (
        Q x10 (upM M 1 0 0)
       ))
      )) ∧ (r13 = r16 → (
       R70 x9
      ))))
     ))
    ) → R29 x9 x10) →
    R29 0 0
   )) ∧ (r5 = 0 → (
    Q (-1) (upM M 1 0 0)
   )))
  )))
set_option maxRecDepth 20000 in
theorem c_X12_apart (l : Launch) (P : jP) (a1 : Int32) (a2 : Int32) (a3 : Int32) (M : jM) (N : jN) (Q : Int32 → jM → Prop) (h : w_X12_apart P a1 a2 a3 M Q) : jC l yX12_apart cX12_apart 6 (some .int) rm_X12_apart LM [.ref (P.1 1), .int a1, .int a2, .int a3] P M N (jqi P (fun r M' N' => N = N' ∧ Q r M' )) := by
  refine jC_of (by decide +kernel) [(0, .ref (P.1 1)), (1, .int a1), (2, .int a2), (3, .int a3)] (Nat.le_of_ble_eq_true rfl) rfl (fun X o => ?_)
  obtain ⟨E, hE⟩ : ∃ E, E = jE X rm_X12_apart (jqi P (fun r M' N' => N = N' ∧ Q r M' )) := ⟨_, rfl⟩
  rw [← hE]
  unfold w_X12_apart at h
  refine j_aload_n o dX12_apart_0 rfl ?_
  refine j_iconst o (v := 0) dX12_apart_1 rfl ?_
  refine j_putf o (M1 := upM M 1 0 0) (N1 := N) (g := 1) (slot := 0) (ci := 12) (ty := .int) rfl jin_X12 tyX12_ok nmX12 (by decide) rfl rfl jf_X12_114 (by decide +kernel) rfl rfl (Nat.le_of_ble_eq_true rfl) (fun _ => rfl) (fun _ => rfl) (fun _ hj => upM_ne _ _ _ hj) (fun _ _ => rfl) dX12_apart_2 ?_
  refine j_aload_n o dX12_apart_5 rfl ?_
  refine j_iload_n o dX12_apart_6 rfl ?_
  refine j_callVi (g := 1) (ci := 12) o (c_X12_isForm l P a1 (upM M 1 0 0) N _ h) dX12_apart_7 jc_X12_262 jn_X12_isForm rfl rfl rfl (fun _ => rfl) rfl rfl (fun r1 Mz2 Nz3 h => ?_)
  obtain ⟨rfl, rfl, h⟩ := h
  refine j_if_eq o (tgt := 21) dX12_apart_10 (by decide) (fun c4 => ?_) (fun c4 => ?_)
  · replace h := h.1 c4
    refine j_iconst o (v := (-1)) dX12_apart_21 rfl ?_
    rw [hE]
    exact j_iret o dX12_apart_22 ⟨_, rfl, rfl, rfl, h⟩
  · replace h := h.2 c4
    refine j_aload_n o dX12_apart_13 rfl ?_
    refine j_iload_n o dX12_apart_14 rfl ?_
    refine j_callVi (g := 1) (ci := 12) o (c_X12_isLaw l P a2 (upM M 1 0 0) N _ h) dX12_apart_15 jc_X12_233 jn_X12_isLaw rfl rfl rfl (fun _ => rfl) rfl rfl (fun r5 Mz6 Nz7 h => ?_)
    obtain ⟨rfl, rfl, h⟩ := h
    refine j_if_ne o (tgt := 23) dX12_apart_18 (by decide) (fun c8 => ?_) (fun c8 => ?_)
    · replace h := h.1 c8
      refine j_iconst o (v := 0) dX12_apart_23 rfl ?_
      refine j_istore o [(4, .int 0), (0, .ref (P.1 1)), (1, .int a1), (2, .int a2), (3, .int a3)] dX12_apart_24 (by decide) rfl ?_
      refine j_iconst o (v := 0) dX12_apart_26 rfl ?_
      refine j_istore o [(5, .int 0), (4, .int 0), (0, .ref (P.1 1)), (1, .int a1), (2, .int a2), (3, .int a3)] dX12_apart_27 (by decide) rfl ?_
      replace h := h (fun (x9 : Int32) (x10 : Int32) => J X P (upM M 1 0 0) N 0 0 E 6 29 [(0, .ref (P.1 1)), (1, .int a1), (2, .int a2), (3, .int a3), (4, .int x9), (5, .int x10)] []) (by
        intro x9 x10 h
        refine j_iload o dX12_apart_29 rfl ?_
        refine j_aload_n o dX12_apart_31 rfl ?_
        refine j_getf o (g := 1) (slot := 2) (ci := 12) (v := .int ((upM M 1 0 0) 1 2)) rfl jin_X12 (by decide) rfl jf_X12_111 (fun _ => rfl) rfl dX12_apart_32 ?_
        refine j_icmp_ge o (tgt := 76) dX12_apart_35 (by decide) (fun c11 => ?_) (fun c11 => ?_)
        · replace h := h.1 c11
          refine j_iload_n o dX12_apart_76 rfl ?_
          refine j_iconst o (v := (-1)) dX12_apart_77 rfl ?_
          refine j_icmp_ne o (tgt := 86) dX12_apart_78 (by decide) (fun c12 => ?_) (fun c12 => ?_)
          · replace h := h.1 c12
            refine j_iconst o (v := (-1)) dX12_apart_86 rfl ?_
            rw [hE]
            exact j_iret o dX12_apart_87 ⟨_, rfl, rfl, rfl, h⟩
          · replace h := h.2 c12
            refine j_iload o dX12_apart_81 rfl ?_
            refine j_goto o (tgt := 87) dX12_apart_83 (by decide) ?_
            rw [hE]
            exact j_iret o dX12_apart_87 ⟨_, rfl, rfl, rfl, h⟩
        · replace h := h.2 c11
          refine j_aload_n o dX12_apart_38 rfl ?_
          refine j_iload_n o dX12_apart_39 rfl ?_
          refine j_iload o dX12_apart_40 rfl ?_
          refine j_callVi (g := 1) (ci := 12) o (c_X12_leadsOn l P a1 x10 (upM M 1 0 0) N _ h) dX12_apart_42 jc_X12_265 jn_X12_leadsOn rfl rfl rfl (fun _ => rfl) rfl rfl (fun r13 Mz14 Nz15 h => ?_)
          obtain ⟨rfl, rfl, h⟩ := h
          refine j_aload_n o dX12_apart_45 rfl ?_
          refine j_iload_n o dX12_apart_46 rfl ?_
          refine j_iload o dX12_apart_47 rfl ?_
          refine j_callVi (g := 1) (ci := 12) o (c_X12_saidOn l P a2 x10 (upM M 1 0 0) N _ h) dX12_apart_49 jc_X12_239 jn_X12_saidOn rfl rfl rfl (fun _ => rfl) rfl rfl (fun r16 Mz17 Nz18 h => ?_)
          obtain ⟨rfl, rfl, h⟩ := h
          replace h := h (fun (x19 : Int32) => J X P (upM M 1 0 0) N 0 0 E 6 70 [(0, .ref (P.1 1)), (1, .int a1), (2, .int a2), (3, .int a3), (4, .int x19), (5, .int x10)] []) (by
            intro x19 h
            refine j_iinc o (v := x10 + 1) [(5, .int (x10 + 1)), (0, .ref (P.1 1)), (1, .int a1), (2, .int a2), (3, .int a3), (4, .int x19)] dX12_apart_70 rfl rfl (by decide) rfl ?_
            refine j_goto o (tgt := 29) dX12_apart_73 (by decide) ?_
            exact j_pick [1, 2, 3, 4, 5, 0] rfl h)
          refine j_icmp_ne o (tgt := 58) dX12_apart_52 (by decide) (fun c20 => ?_) (fun c20 => ?_)
          · replace h := h.1 c20
            refine j_iload o dX12_apart_58 rfl ?_
            refine j_iload_n o dX12_apart_60 rfl ?_
            refine j_icmp_ne o (tgt := 67) dX12_apart_61 (by decide) (fun c21 => ?_) (fun c21 => ?_)
            · replace h := h.1 c21
              refine j_iinc o (v := x9 + 1) [(4, .int (x9 + 1)), (0, .ref (P.1 1)), (1, .int a1), (2, .int a2), (3, .int a3), (5, .int x10)] dX12_apart_67 rfl rfl (by decide) rfl ?_
              exact j_pick [1, 2, 3, 4, 0, 5] rfl h
            · replace h := h.2 c21
              refine j_iload o dX12_apart_64 rfl ?_
              rw [hE]
              exact j_iret o dX12_apart_66 ⟨_, rfl, rfl, rfl, h⟩
          · replace h := h.2 c20
            refine j_goto o (tgt := 70) dX12_apart_55 (by decide) ?_
            exact j_pick [0, 1, 2, 3, 4, 5] rfl h)
      exact j_pick [2, 3, 4, 5, 1, 0] rfl h
    · replace h := h.2 c8
      refine j_iconst o (v := (-1)) dX12_apart_21 rfl ?_
      rw [hE]
      exact j_iret o dX12_apart_22 ⟨_, rfl, rfl, rfl, h⟩
