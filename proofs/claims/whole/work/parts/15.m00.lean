abbrev rm_J6_bitCount_0f7a4 : Room := { frames := 0, cells := 0, slots := 0, locals := 0 }
def w_J6_bitCount_0f7a4 (P : jP) (a1 : Int32) (Q : Int32 → Prop) : Prop :=
  ∀ y1 : Int32, y1 = ((a1 - ((jushr a1 1) &&& 1431655765)) &&& 858993459) + ((jushr (a1 - ((jushr a1 1) &&& 1431655765)) 2) &&& 858993459) →
  ∀ y2 : Int32, y2 = ((y1 + (jushr y1 4)) &&& 252645135) + (jushr ((y1 + (jushr y1 4)) &&& 252645135) 8) →
  Q ((y2 + (jushr y2 16)) &&& 63)
set_option maxRecDepth 20000 in
theorem c_J6_bitCount_0f7a4 {L0 : jL} (l : Launch) (P : jP) (a1 : Int32) (M : jM) (N : jN) (Q : Int32 → Prop) (h : w_J6_bitCount_0f7a4 P a1 Q) : jC l yJ6_bitCount_0f7a4 cJ6_bitCount_0f7a4 1 (some .int) rm_J6_bitCount_0f7a4 L0 [.int a1] P M N (jqi P (fun r M' N' => M = M' ∧ N = N' ∧ Q r )) := by
  refine jC_of (by decide +kernel) [(0, .int a1)] (Nat.le_of_ble_eq_true rfl) rfl (fun X o => ?_)
  obtain ⟨E, hE⟩ : ∃ E, E = jE X rm_J6_bitCount_0f7a4 (jqi P (fun r M' N' => M = M' ∧ N = N' ∧ Q r )) := ⟨_, rfl⟩
  rw [← hE]
  unfold w_J6_bitCount_0f7a4 at h
  refine j_iload_n o dJ6_bitCount_0f7a4_0 rfl ?_
  refine j_iload_n o dJ6_bitCount_0f7a4_1 rfl ?_
  refine j_iconst o (v := 1) dJ6_bitCount_0f7a4_2 rfl ?_
  refine j_iushr o dJ6_bitCount_0f7a4_3 ?_
  refine j_ldc_w o jk_J6_265 dJ6_bitCount_0f7a4_4 ?_
  refine j_iand o dJ6_bitCount_0f7a4_7 ?_
  refine j_isub o dJ6_bitCount_0f7a4_8 ?_
  refine j_istore_n o [(0, .int (a1 - ((jushr a1 1) &&& 1431655765)))] dJ6_bitCount_0f7a4_9 (by decide) rfl ?_
  refine j_iload_n o dJ6_bitCount_0f7a4_10 rfl ?_
  refine j_ldc_w o jk_J6_266 dJ6_bitCount_0f7a4_11 ?_
  refine j_iand o dJ6_bitCount_0f7a4_14 ?_
  refine j_iload_n o dJ6_bitCount_0f7a4_15 rfl ?_
  refine j_iconst o (v := 2) dJ6_bitCount_0f7a4_16 rfl ?_
  refine j_iushr o dJ6_bitCount_0f7a4_17 ?_
  refine j_ldc_w o jk_J6_266 dJ6_bitCount_0f7a4_18 ?_
  refine j_iand o dJ6_bitCount_0f7a4_21 ?_
  refine j_iadd o dJ6_bitCount_0f7a4_22 ?_
  refine j_topi (fun y1 hy1 => ?_)
  replace h := h y1 hy1
  refine j_istore_n o [(0, .int y1)] dJ6_bitCount_0f7a4_23 (by decide) rfl ?_
  refine j_iload_n o dJ6_bitCount_0f7a4_24 rfl ?_
  refine j_iload_n o dJ6_bitCount_0f7a4_25 rfl ?_
  refine j_iconst o (v := 4) dJ6_bitCount_0f7a4_26 rfl ?_
  refine j_iushr o dJ6_bitCount_0f7a4_27 ?_
  refine j_iadd o dJ6_bitCount_0f7a4_28 ?_
  refine j_ldc_w o jk_J6_267 dJ6_bitCount_0f7a4_29 ?_
  refine j_iand o dJ6_bitCount_0f7a4_32 ?_
  refine j_istore_n o [(0, .int ((y1 + (jushr y1 4)) &&& 252645135))] dJ6_bitCount_0f7a4_33 (by decide) rfl ?_
  refine j_iload_n o dJ6_bitCount_0f7a4_34 rfl ?_
  refine j_iload_n o dJ6_bitCount_0f7a4_35 rfl ?_
  refine j_bipush o (v := 8) dJ6_bitCount_0f7a4_36 rfl ?_
  refine j_iushr o dJ6_bitCount_0f7a4_38 ?_
  refine j_iadd o dJ6_bitCount_0f7a4_39 ?_
  refine j_topi (fun y2 hy2 => ?_)
  replace h := h y2 hy2
  refine j_istore_n o [(0, .int y2)] dJ6_bitCount_0f7a4_40 (by decide) rfl ?_
  refine j_iload_n o dJ6_bitCount_0f7a4_41 rfl ?_
  refine j_iload_n o dJ6_bitCount_0f7a4_42 rfl ?_
  refine j_bipush o (v := 16) dJ6_bitCount_0f7a4_43 rfl ?_
  refine j_iushr o dJ6_bitCount_0f7a4_45 ?_
  refine j_iadd o dJ6_bitCount_0f7a4_46 ?_
  refine j_istore_n o [(0, .int (y2 + (jushr y2 16)))] dJ6_bitCount_0f7a4_47 (by decide) rfl ?_
  refine j_iload_n o dJ6_bitCount_0f7a4_48 rfl ?_
  refine j_bipush o (v := 63) dJ6_bitCount_0f7a4_49 rfl ?_
  refine j_iand o dJ6_bitCount_0f7a4_51 ?_
  rw [hE]
  exact j_iret o dJ6_bitCount_0f7a4_52 ⟨_, rfl, rfl, rfl, rfl, h⟩

abbrev rm_X4_isSureAt : Room := { frames := 0, cells := 0, slots := 0, locals := 0 }
def w_X4_isSureAt (P : jP) (g : Nat) (a1 : Int32) (M : jM) (Q : Int32 → Prop) : Prop :=
  cLw P g = true ∧
  jin P (g + 4) a1 ∧
  (7 ≤ (M (g + 4) a1.toNatClampNeg) → (
   Q 0
  )) ∧ (¬ 7 ≤ (M (g + 4) a1.toNatClampNeg) → (
   Q 1
  ))
set_option maxRecDepth 20000 in
theorem c_X4_isSureAt (l : Launch) (P : jP) (g : Nat) (a1 : Int32) (M : jM) (N : jN) (Q : Int32 → Prop) (h : w_X4_isSureAt P g a1 M Q) : jC l yX4_isSureAt cX4_isSureAt 2 (some .boolean) rm_X4_isSureAt LC [.ref (P.1 g), .int a1] P M N (jqi P (fun r M' N' => M = M' ∧ N = N' ∧ Q r )) := by
  refine jC_of (by decide +kernel) [(0, .ref (P.1 g)), (1, .int a1)] (Nat.le_of_ble_eq_true rfl) rfl (fun X o => ?_)
  obtain ⟨E, hE⟩ : ∃ E, E = jE X rm_X4_isSureAt (jqi P (fun r M' N' => M = M' ∧ N = N' ∧ Q r )) := ⟨_, rfl⟩
  rw [← hE]
  unfold w_X4_isSureAt at h
  refine j_aload_n o dX4_isSureAt_0 rfl ?_
  obtain ⟨hb1, h⟩ := h
  refine j_getf o (g := g) (slot := 4) (ci := 4) (v := .ref (P.1 (g + 4))) rfl jin_X4 (by decide) rfl jf_X4_31 (fun tA => LC_lw hb1 tA _ _) rfl dX4_isSureAt_1 ?_
  refine j_iload_n o dX4_isSureAt_4 rfl ?_
  obtain ⟨hb2, h⟩ := h
  obtain ⟨nnhb2, hchb2, hihb2⟩ := hb2
  refine j_iald o (g := g + 4) (fun tA => LC_ia hchb2 tA _ _) hihb2 dX4_isSureAt_5 ?_
  refine j_bipush o (v := 7) dX4_isSureAt_6 rfl ?_
  refine j_icmp_ge o (tgt := 15) dX4_isSureAt_8 (by decide) (fun c3 => ?_) (fun c3 => ?_)
  · replace h := h.1 c3
    refine j_iconst o (v := 0) dX4_isSureAt_15 rfl ?_
    rw [hE]
    exact j_zret o rfl dX4_isSureAt_16 ⟨_, rfl, rfl, rfl, rfl, h⟩
  · replace h := h.2 c3
    refine j_iconst o (v := 1) dX4_isSureAt_11 rfl ?_
    refine j_goto o (tgt := 16) dX4_isSureAt_12 (by decide) ?_
    rw [hE]
    exact j_zret o rfl dX4_isSureAt_16 ⟨_, rfl, rfl, rfl, rfl, h⟩

abbrev rm_X0_isSureAt : Room := { frames := 1, cells := 0, slots := 0, locals := 21 }
def w_X0_isSureAt (P : jP) (a1 : Int32) (M : jM) (Q : Int32 → Prop) : Prop :=
  ((M 8 6).toNatClampNeg) ≠ 0 ∧
  cLw P ((M 8 6).toNatClampNeg) = true ∧
  w_X4_isSureAt P ((M 8 6).toNatClampNeg) a1 M (fun r2 =>
  (r2 = 0 → (
   Q 0
  )) ∧ (¬ r2 = 0 → (
   (((M 8 7).toNatClampNeg) = 0 → (
    Q 1
   )) ∧ (((M 8 7).toNatClampNeg) ≠ 0 → (
    ((M 8 7).toNatClampNeg) ≠ 0 ∧
    cLw P ((M 8 7).toNatClampNeg) = true ∧
    w_X4_isSureAt P ((M 8 7).toNatClampNeg) a1 M (fun r9 =>
    (r9 = 0 → (
     Q 0
    )) ∧ (¬ r9 = 0 → (
     Q 1
    )))
   ))
  )))
set_option maxRecDepth 20000 in
theorem c_X0_isSureAt (l : Launch) (P : jP) (a1 : Int32) (M : jM) (N : jN) (Q : Int32 → Prop) (h : w_X0_isSureAt P a1 M Q) : jC l yX0_isSureAt cX0_isSureAt 2 (some .boolean) rm_X0_isSureAt LC [.ref (P.1 8), .int a1] P M N (jqi P (fun r M' N' => M = M' ∧ N = N' ∧ Q r )) := by
  refine jC_of (by decide +kernel) [(0, .ref (P.1 8)), (1, .int a1)] (Nat.le_of_ble_eq_true rfl) rfl (fun X o => ?_)
  obtain ⟨E, hE⟩ : ∃ E, E = jE X rm_X0_isSureAt (jqi P (fun r M' N' => M = M' ∧ N = N' ∧ Q r )) := ⟨_, rfl⟩
  rw [← hE]
  unfold w_X0_isSureAt at h
  refine j_aload_n o dX0_isSureAt_0 rfl ?_
  refine j_getf o (g := 8) (slot := 6) (ci := 0) (v := jrf P ((M 8 6).toNatClampNeg)) rfl jin_X0 (by decide) rfl jf_X0_44 (fun _ => rfl) rfl dX0_isSureAt_1 ?_
  refine j_iload_n o dX0_isSureAt_4 rfl ?_
  obtain ⟨hq1, h⟩ := h
  rw [jrf_n P hq1]
  obtain ⟨hb5, h⟩ := h
  refine j_callVi (g := (M 8 6).toNatClampNeg) (ci := 4) o (c_X4_isSureAt l P ((M 8 6).toNatClampNeg) a1 M N _ h) dX0_isSureAt_5 jc_X0_116 jn_X4_isSureAt rfl rfl rfl (fun tA => LC_lw hb5 tA _ _) rfl rfl (fun r2 Mz3 Nz4 h => ?_)
  obtain ⟨rfl, rfl, h⟩ := h
  refine j_if_eq o (tgt := 33) dX0_isSureAt_8 (by decide) (fun c6 => ?_) (fun c6 => ?_)
  · replace h := h.1 c6
    refine j_iconst o (v := 0) dX0_isSureAt_33 rfl ?_
    rw [hE]
    exact j_zret o rfl dX0_isSureAt_34 ⟨_, rfl, rfl, rfl, rfl, h⟩
  · replace h := h.2 c6
    refine j_aload_n o dX0_isSureAt_11 rfl ?_
    refine j_getf o (g := 8) (slot := 7) (ci := 0) (v := jrf P ((M 8 7).toNatClampNeg)) rfl jin_X0 (by decide) rfl jf_X0_48 (fun _ => rfl) rfl dX0_isSureAt_12 ?_
    refine j_null2 o (tgt := 29) dX0_isSureAt_15 (by decide) (fun c7 => ?_) (fun c7 => ?_)
    · replace h := h.1 c7
      refine j_iconst o (v := 1) dX0_isSureAt_29 rfl ?_
      refine j_goto o (tgt := 34) dX0_isSureAt_30 (by decide) ?_
      rw [hE]
      exact j_zret o rfl dX0_isSureAt_34 ⟨_, rfl, rfl, rfl, rfl, h⟩
    · replace h := h.2 c7
      try rw [jrf_n P c7]
      refine j_aload_n o dX0_isSureAt_18 rfl ?_
      refine j_getf o (g := 8) (slot := 7) (ci := 0) (v := jrf P ((M 8 7).toNatClampNeg)) rfl jin_X0 (by decide) rfl jf_X0_48 (fun _ => rfl) rfl dX0_isSureAt_19 ?_
      refine j_iload_n o dX0_isSureAt_22 rfl ?_
      obtain ⟨hq8, h⟩ := h
      rw [jrf_n P hq8]
      obtain ⟨hb12, h⟩ := h
      refine j_callVi (g := (M 8 7).toNatClampNeg) (ci := 4) o (c_X4_isSureAt l P ((M 8 7).toNatClampNeg) a1 M N _ h) dX0_isSureAt_23 jc_X0_116 jn_X4_isSureAt rfl rfl rfl (fun tA => LC_lw hb12 tA _ _) rfl rfl (fun r9 Mz10 Nz11 h => ?_)
      obtain ⟨rfl, rfl, h⟩ := h
      refine j_if_eq o (tgt := 33) dX0_isSureAt_26 (by decide) (fun c13 => ?_) (fun c13 => ?_)
      · replace h := h.1 c13
        refine j_iconst o (v := 0) dX0_isSureAt_33 rfl ?_
        rw [hE]
        exact j_zret o rfl dX0_isSureAt_34 ⟨_, rfl, rfl, rfl, rfl, h⟩
      · replace h := h.2 c13
        refine j_iconst o (v := 1) dX0_isSureAt_29 rfl ?_
        refine j_goto o (tgt := 34) dX0_isSureAt_30 (by decide) ?_
        rw [hE]
        exact j_zret o rfl dX0_isSureAt_34 ⟨_, rfl, rfl, rfl, rfl, h⟩

abbrev rm_X0_mayAsk : Room := { frames := 0, cells := 0, slots := 0, locals := 0 }
def w_X0_mayAsk (P : jP) (a1 : Int32) (a2 : Int32) (M : jM) (Q : Int32 → Prop) : Prop :=
  (((a2 &&& ((M 6 3) ^^^ (-1))) &&& ((1 : Int32) <<< (a1 &&& 31))) = 0 → (
   Q 0
  )) ∧ (¬ ((a2 &&& ((M 6 3) ^^^ (-1))) &&& ((1 : Int32) <<< (a1 &&& 31))) = 0 → (
   Q 1
  ))
set_option maxRecDepth 20000 in
theorem c_X0_mayAsk (l : Launch) (P : jP) (a1 : Int32) (a2 : Int32) (M : jM) (N : jN) (Q : Int32 → Prop) (h : w_X0_mayAsk P a1 a2 M Q) : jC l yX0_mayAsk cX0_mayAsk 3 (some .boolean) rm_X0_mayAsk LC [.ref (P.1 8), .int a1, .int a2] P M N (jqi P (fun r M' N' => M = M' ∧ N = N' ∧ Q r )) := by
  refine jC_of (by decide +kernel) [(0, .ref (P.1 8)), (1, .int a1), (2, .int a2)] (Nat.le_of_ble_eq_true rfl) rfl (fun X o => ?_)
  obtain ⟨E, hE⟩ : ∃ E, E = jE X rm_X0_mayAsk (jqi P (fun r M' N' => M = M' ∧ N = N' ∧ Q r )) := ⟨_, rfl⟩
  rw [← hE]
  unfold w_X0_mayAsk at h
  refine j_iload_n o dX0_mayAsk_0 rfl ?_
  refine j_aload_n o dX0_mayAsk_1 rfl ?_
  refine j_getf o (g := 8) (slot := 1) (ci := 0) (v := .ref (P.1 6)) rfl jin_X0 (by decide) rfl jf_X0_19 (fun _ => rfl) rfl dX0_mayAsk_2 ?_
  refine j_getf o (g := 6) (slot := 3) (ci := 9) (v := .int (M 6 3)) rfl jin_X9 (by decide) rfl jf_X0_119 (fun _ => rfl) rfl dX0_mayAsk_5 ?_
  refine j_iconst o (v := (-1)) dX0_mayAsk_8 rfl ?_
  refine j_ixor o dX0_mayAsk_9 ?_
  refine j_iand o dX0_mayAsk_10 ?_
  refine j_iconst o (v := 1) dX0_mayAsk_11 rfl ?_
  refine j_iload_n o dX0_mayAsk_12 rfl ?_
  refine j_ishl o dX0_mayAsk_13 ?_
  refine j_iand o dX0_mayAsk_14 ?_
  refine j_if_eq o (tgt := 22) dX0_mayAsk_15 (by decide) (fun c1 => ?_) (fun c1 => ?_)
  · replace h := h.1 c1
    refine j_iconst o (v := 0) dX0_mayAsk_22 rfl ?_
    rw [hE]
    exact j_zret o rfl dX0_mayAsk_23 ⟨_, rfl, rfl, rfl, rfl, h⟩
  · replace h := h.2 c1
    refine j_iconst o (v := 1) dX0_mayAsk_18 rfl ?_
    refine j_goto o (tgt := 23) dX0_mayAsk_19 (by decide) ?_
    rw [hE]
    exact j_zret o rfl dX0_mayAsk_23 ⟨_, rfl, rfl, rfl, rfl, h⟩

abbrev rm_X0_meanBy : Room := { frames := 0, cells := 0, slots := 0, locals := 0 }
def w_X0_meanBy (P : jP) (a1 : Int32) (a2 : Int32) (M : jM) (N : jN) (Q : Int64 → Prop) : Prop :=
  vp_in a2 (P.2.2 0) ∧
  vp_in (a1 + (M 15 a2.toNatClampNeg)) (P.2.2 2) ∧
  ∀ y3 : Int64, y3 = N 36 (a1 + (M 15 a2.toNatClampNeg)).toNatClampNeg →
  vp_in a2 (P.2.2 0) ∧
  vp_in (a1 + (2 * (M 15 a2.toNatClampNeg))) (P.2.2 2) ∧
  ∀ y6 : Int64, y6 = N 36 (a1 + (2 * (M 15 a2.toNatClampNeg))).toNatClampNeg →
  ((lg_cmp y3 (-1)) = 0 → (
   Q (-1)
  )) ∧ (¬ (lg_cmp y3 (-1)) = 0 → (
   (¬ (lg_cmp y6 (-1)) = 0 → (
    vp_in a1 (P.2.2 2) ∧
    vp_in a2 (P.2.2 0) ∧
    Q ((((N 35 a1.toNatClampNeg) * ((M 27 a2.toNatClampNeg).toInt64)) + y3) + y6)
   )) ∧ ((lg_cmp y6 (-1)) = 0 → (
    Q (-1)
   ))
  ))
set_option maxRecDepth 20000 in
theorem c_X0_meanBy (l : Launch) (P : jP) (a1 : Int32) (a2 : Int32) (M : jM) (N : jN) (Q : Int64 → Prop) (h : w_X0_meanBy P a1 a2 M N Q) : jC l yX0_meanBy cX0_meanBy 7 (some .long) rm_X0_meanBy LC [.ref (P.1 8), .int a1, .int a2] P M N (jql P (fun r M' N' => M = M' ∧ N = N' ∧ Q r )) := by
  refine jC_of (by decide +kernel) [(0, .ref (P.1 8)), (1, .int a1), (2, .int a2)] (Nat.le_of_ble_eq_true rfl) rfl (fun X o => ?_)
  obtain ⟨E, hE⟩ : ∃ E, E = jE X rm_X0_meanBy (jql P (fun r M' N' => M = M' ∧ N = N' ∧ Q r )) := ⟨_, rfl⟩
  rw [← hE]
  unfold w_X0_meanBy at h
  refine j_aload_n o dX0_meanBy_0 rfl ?_
  refine j_getf o (g := 8) (slot := 4) (ci := 0) (v := .ref (P.1 36)) rfl jin_X0 (by decide) rfl jf_X0_37 (fun _ => rfl) rfl dX0_meanBy_1 ?_
  refine j_iload_n o dX0_meanBy_4 rfl ?_
  refine j_aload_n o dX0_meanBy_5 rfl ?_
  refine j_getf o (g := 8) (slot := 0) (ci := 0) (v := .ref (P.1 2)) rfl jin_X0 (by decide) rfl jf_X0_15 (fun _ => rfl) rfl dX0_meanBy_6 ?_
  refine j_getf o (g := 2) (slot := 4) (ci := 3) (v := .ref (P.1 15)) rfl jin_X3 (by decide) rfl jf_X0_92 (fun _ => rfl) rfl dX0_meanBy_9 ?_
  refine j_iload_n o dX0_meanBy_12 rfl ?_
  obtain ⟨hb1, h⟩ := h
  refine j_iald o (g := 15) (fun _ => rfl) hb1 dX0_meanBy_13 ?_
  refine j_iadd o dX0_meanBy_14 ?_
  obtain ⟨hb2, h⟩ := h
  refine j_lald o (g := 36) (fun _ => rfl) hb2 dX0_meanBy_15 ?_
  refine j_topl (fun y3 hy3 => ?_)
  replace h := h y3 hy3
  refine j_lstore_n o [(3, .long y3), (0, .ref (P.1 8)), (1, .int a1), (2, .int a2)] dX0_meanBy_16 (by decide) rfl ?_
  refine j_aload_n o dX0_meanBy_17 rfl ?_
  refine j_getf o (g := 8) (slot := 4) (ci := 0) (v := .ref (P.1 36)) rfl jin_X0 (by decide) rfl jf_X0_37 (fun _ => rfl) rfl dX0_meanBy_18 ?_
  refine j_iload_n o dX0_meanBy_21 rfl ?_
  refine j_iconst o (v := 2) dX0_meanBy_22 rfl ?_
  refine j_aload_n o dX0_meanBy_23 rfl ?_
  refine j_getf o (g := 8) (slot := 0) (ci := 0) (v := .ref (P.1 2)) rfl jin_X0 (by decide) rfl jf_X0_15 (fun _ => rfl) rfl dX0_meanBy_24 ?_
  refine j_getf o (g := 2) (slot := 4) (ci := 3) (v := .ref (P.1 15)) rfl jin_X3 (by decide) rfl jf_X0_92 (fun _ => rfl) rfl dX0_meanBy_27 ?_
  refine j_iload_n o dX0_meanBy_30 rfl ?_
  obtain ⟨hb4, h⟩ := h
  refine j_iald o (g := 15) (fun _ => rfl) hb4 dX0_meanBy_31 ?_
  refine j_imul o dX0_meanBy_32 ?_
  refine j_iadd o dX0_meanBy_33 ?_
  obtain ⟨hb5, h⟩ := h
  refine j_lald o (g := 36) (fun _ => rfl) hb5 dX0_meanBy_34 ?_
  refine j_topl (fun y6 hy6 => ?_)
  replace h := h y6 hy6
  refine j_lstore o [(5, .long y6), (3, .long y3), (0, .ref (P.1 8)), (1, .int a1), (2, .int a2)] dX0_meanBy_35 (by decide) rfl ?_
  refine j_lload_n o dX0_meanBy_37 rfl ?_
  refine j_ldc2 o jk_X0_102 dX0_meanBy_38 ?_
  refine j_lcmp o dX0_meanBy_41 ?_
  refine j_if_eq o (tgt := 54) dX0_meanBy_42 (by decide) (fun c7 => ?_) (fun c7 => ?_)
  · replace h := h.1 c7
    refine j_ldc2 o jk_X0_102 dX0_meanBy_54 ?_
    refine j_goto o (tgt := 82) dX0_meanBy_57 (by decide) ?_
    rw [hE]
    exact j_lret o dX0_meanBy_82 ⟨_, rfl, rfl, rfl, rfl, h⟩
  · replace h := h.2 c7
    refine j_lload o dX0_meanBy_45 rfl ?_
    refine j_ldc2 o jk_X0_102 dX0_meanBy_47 ?_
    refine j_lcmp o dX0_meanBy_50 ?_
    refine j_if_ne o (tgt := 60) dX0_meanBy_51 (by decide) (fun c8 => ?_) (fun c8 => ?_)
    · replace h := h.1 c8
      refine j_aload_n o dX0_meanBy_60 rfl ?_
      refine j_getf o (g := 8) (slot := 3) (ci := 0) (v := .ref (P.1 35)) rfl jin_X0 (by decide) rfl jf_X0_33 (fun _ => rfl) rfl dX0_meanBy_61 ?_
      refine j_iload_n o dX0_meanBy_64 rfl ?_
      obtain ⟨hb9, h⟩ := h
      refine j_lald o (g := 35) (fun _ => rfl) hb9 dX0_meanBy_65 ?_
      refine j_aload_n o dX0_meanBy_66 rfl ?_
      refine j_getf o (g := 8) (slot := 1) (ci := 0) (v := .ref (P.1 6)) rfl jin_X0 (by decide) rfl jf_X0_19 (fun _ => rfl) rfl dX0_meanBy_67 ?_
      refine j_getf o (g := 6) (slot := 1) (ci := 9) (v := .ref (P.1 27)) rfl jin_X9 (by decide) rfl jf_X0_124 (fun _ => rfl) rfl dX0_meanBy_70 ?_
      refine j_iload_n o dX0_meanBy_73 rfl ?_
      obtain ⟨hb10, h⟩ := h
      refine j_iald o (g := 27) (fun _ => rfl) hb10 dX0_meanBy_74 ?_
      refine j_i2l o dX0_meanBy_75 ?_
      refine j_lmul o dX0_meanBy_76 ?_
      refine j_lload_n o dX0_meanBy_77 rfl ?_
      refine j_ladd o dX0_meanBy_78 ?_
      refine j_lload o dX0_meanBy_79 rfl ?_
      refine j_ladd o dX0_meanBy_81 ?_
      rw [hE]
      exact j_lret o dX0_meanBy_82 ⟨_, rfl, rfl, rfl, rfl, h⟩
    · replace h := h.2 c8
      refine j_ldc2 o jk_X0_102 dX0_meanBy_54 ?_
      refine j_goto o (tgt := 82) dX0_meanBy_57 (by decide) ?_
      rw [hE]
      exact j_lret o dX0_meanBy_82 ⟨_, rfl, rfl, rfl, rfl, h⟩

abbrev rm_X0_worstBy : Room := { frames := 1, cells := 0, slots := 0, locals := 23 }
def w_X0_worstBy (P : jP) (a1 : Int32) (a2 : Int32) (M : jM) (Q : Int32 → Prop) : Prop :=
  vp_in a2 (P.2.2 0) ∧
  vp_in (a1 + (M 15 a2.toNatClampNeg)) (P.2.2 2) ∧
  ∀ y3 : Int32, y3 = M 37 (a1 + (M 15 a2.toNatClampNeg)).toNatClampNeg →
  vp_in a2 (P.2.2 0) ∧
  vp_in (a1 + (2 * (M 15 a2.toNatClampNeg))) (P.2.2 2) ∧
  ∀ y6 : Int32, y6 = M 37 (a1 + (2 * (M 15 a2.toNatClampNeg))).toNatClampNeg →
  (y3 = (-1) → (
   Q (-1)
  )) ∧ (¬ y3 = (-1) → (
   (¬ y6 = (-1) → (
    vp_in a2 (P.2.2 0) ∧
    Q ((M 27 a2.toNatClampNeg) + (if y3 < y6 then y6 else y3))
   )) ∧ (y6 = (-1) → (
    Q (-1)
   ))
  ))
set_option maxRecDepth 20000 in
theorem c_X0_worstBy (l : Launch) (P : jP) (a1 : Int32) (a2 : Int32) (M : jM) (N : jN) (Q : Int32 → Prop) (h : w_X0_worstBy P a1 a2 M Q) : jC l yX0_worstBy cX0_worstBy 5 (some .int) rm_X0_worstBy LC [.ref (P.1 8), .int a1, .int a2] P M N (jqi P (fun r M' N' => M = M' ∧ N = N' ∧ Q r )) := by
  refine jC_of (by decide +kernel) [(0, .ref (P.1 8)), (1, .int a1), (2, .int a2)] (Nat.le_of_ble_eq_true rfl) rfl (fun X o => ?_)
  obtain ⟨E, hE⟩ : ∃ E, E = jE X rm_X0_worstBy (jqi P (fun r M' N' => M = M' ∧ N = N' ∧ Q r )) := ⟨_, rfl⟩
  rw [← hE]
  unfold w_X0_worstBy at h
  refine j_aload_n o dX0_worstBy_0 rfl ?_
  refine j_getf o (g := 8) (slot := 5) (ci := 0) (v := .ref (P.1 37)) rfl jin_X0 (by decide) rfl jf_X0_40 (fun _ => rfl) rfl dX0_worstBy_1 ?_
  refine j_iload_n o dX0_worstBy_4 rfl ?_
  refine j_aload_n o dX0_worstBy_5 rfl ?_
  refine j_getf o (g := 8) (slot := 0) (ci := 0) (v := .ref (P.1 2)) rfl jin_X0 (by decide) rfl jf_X0_15 (fun _ => rfl) rfl dX0_worstBy_6 ?_
  refine j_getf o (g := 2) (slot := 4) (ci := 3) (v := .ref (P.1 15)) rfl jin_X3 (by decide) rfl jf_X0_92 (fun _ => rfl) rfl dX0_worstBy_9 ?_
  refine j_iload_n o dX0_worstBy_12 rfl ?_
  obtain ⟨hb1, h⟩ := h
  refine j_iald o (g := 15) (fun _ => rfl) hb1 dX0_worstBy_13 ?_
  refine j_iadd o dX0_worstBy_14 ?_
  obtain ⟨hb2, h⟩ := h
  refine j_iald o (g := 37) (fun _ => rfl) hb2 dX0_worstBy_15 ?_
  refine j_topi (fun y3 hy3 => ?_)
  replace h := h y3 hy3
  refine j_istore_n o [(3, .int y3), (0, .ref (P.1 8)), (1, .int a1), (2, .int a2)] dX0_worstBy_16 (by decide) rfl ?_
  refine j_aload_n o dX0_worstBy_17 rfl ?_
  refine j_getf o (g := 8) (slot := 5) (ci := 0) (v := .ref (P.1 37)) rfl jin_X0 (by decide) rfl jf_X0_40 (fun _ => rfl) rfl dX0_worstBy_18 ?_
  refine j_iload_n o dX0_worstBy_21 rfl ?_
  refine j_iconst o (v := 2) dX0_worstBy_22 rfl ?_
  refine j_aload_n o dX0_worstBy_23 rfl ?_
  refine j_getf o (g := 8) (slot := 0) (ci := 0) (v := .ref (P.1 2)) rfl jin_X0 (by decide) rfl jf_X0_15 (fun _ => rfl) rfl dX0_worstBy_24 ?_
  refine j_getf o (g := 2) (slot := 4) (ci := 3) (v := .ref (P.1 15)) rfl jin_X3 (by decide) rfl jf_X0_92 (fun _ => rfl) rfl dX0_worstBy_27 ?_
  refine j_iload_n o dX0_worstBy_30 rfl ?_
  obtain ⟨hb4, h⟩ := h
  refine j_iald o (g := 15) (fun _ => rfl) hb4 dX0_worstBy_31 ?_
  refine j_imul o dX0_worstBy_32 ?_
  refine j_iadd o dX0_worstBy_33 ?_
  obtain ⟨hb5, h⟩ := h
  refine j_iald o (g := 37) (fun _ => rfl) hb5 dX0_worstBy_34 ?_
  refine j_topi (fun y6 hy6 => ?_)
  replace h := h y6 hy6
  refine j_istore o [(4, .int y6), (3, .int y3), (0, .ref (P.1 8)), (1, .int a1), (2, .int a2)] dX0_worstBy_35 (by decide) rfl ?_
  refine j_iload_n o dX0_worstBy_37 rfl ?_
  refine j_iconst o (v := (-1)) dX0_worstBy_38 rfl ?_
  refine j_icmp_eq o (tgt := 48) dX0_worstBy_39 (by decide) (fun c7 => ?_) (fun c7 => ?_)
  · replace h := h.1 c7
    refine j_iconst o (v := (-1)) dX0_worstBy_48 rfl ?_
    refine j_goto o (tgt := 68) dX0_worstBy_49 (by decide) ?_
    rw [hE]
    exact j_iret o dX0_worstBy_68 ⟨_, rfl, rfl, rfl, rfl, h⟩
  · replace h := h.2 c7
    refine j_iload o dX0_worstBy_42 rfl ?_
    refine j_iconst o (v := (-1)) dX0_worstBy_44 rfl ?_
    refine j_icmp_ne o (tgt := 52) dX0_worstBy_45 (by decide) (fun c8 => ?_) (fun c8 => ?_)
    · replace h := h.1 c8
      refine j_aload_n o dX0_worstBy_52 rfl ?_
      refine j_getf o (g := 8) (slot := 1) (ci := 0) (v := .ref (P.1 6)) rfl jin_X0 (by decide) rfl jf_X0_19 (fun _ => rfl) rfl dX0_worstBy_53 ?_
      refine j_getf o (g := 6) (slot := 1) (ci := 9) (v := .ref (P.1 27)) rfl jin_X9 (by decide) rfl jf_X0_124 (fun _ => rfl) rfl dX0_worstBy_56 ?_
      refine j_iload_n o dX0_worstBy_59 rfl ?_
      obtain ⟨hb9, h⟩ := h
      refine j_iald o (g := 27) (fun _ => rfl) hb9 dX0_worstBy_60 ?_
      refine j_iload_n o dX0_worstBy_61 rfl ?_
      refine j_iload o dX0_worstBy_62 rfl ?_
      refine j_mmax o dX0_worstBy_64 jc_X0_127 rfl ?_
      refine j_iadd o dX0_worstBy_67 ?_
      rw [hE]
      exact j_iret o dX0_worstBy_68 ⟨_, rfl, rfl, rfl, rfl, h⟩
    · replace h := h.2 c8
      refine j_iconst o (v := (-1)) dX0_worstBy_48 rfl ?_
      refine j_goto o (tgt := 68) dX0_worstBy_49 (by decide) ?_
      rw [hE]
      exact j_iret o dX0_worstBy_68 ⟨_, rfl, rfl, rfl, rfl, h⟩

abbrev rm_X0_fill : Room := { frames := 2, cells := 0, slots := 0, locals := 47 }
def w_X0_fill (P : jP) (a1 : Int32) (a2 : Int32) (M : jM) (N : jN) (Q : jM → jN → Prop) : Prop :=
  w_X0_isSureAt P a1 M (fun r1 =>
  ∀ R17 : Int64 → Prop, (∀ (x4 : Int64), (
   ∀ R28 : Int32 → Prop, (∀ (x5 : Int32), (
    ∀ R33 : Int64 → Int32 → Int32 → Prop, (∀ (x6 : Int64) (x7 : Int32) (x8 : Int32), (
     ∀ R146 : Prop, ((
      vp_in a1 (P.2.2 2) ∧
      vp_in a1 (P.2.2 2) ∧
      Q (upM M 37 a1.toNatClampNeg x7) (upN N 36 a1.toNatClampNeg x6)
     ) → R146) →
     ((M 2 0) ≤ x8 → (
      R146
     )) ∧ (¬ (M 2 0) ≤ x8 → (
      (¬ r1 = 0 → (
       R146
      )) ∧ (r1 = 0 → (
       w_X0_mayAsk P x8 a2 M (fun r13 =>
       ∀ R140 : Int64 → Int32 → Prop, (∀ (x16 : Int64) (x17 : Int32), (
        R33 x16 x17 (x8 + 1)
       ) → R140 x16 x17) →
       (r13 = 0 → (
        R140 x6 x7
       )) ∧ (¬ r13 = 0 → (
        w_X0_meanBy P a1 x8 M N (fun r19 =>
        w_X0_worstBy P a1 x8 M (fun r22 =>
        ∀ R110 : Int64 → Prop, (∀ (x25 : Int64), (
         ∀ R138 : Int32 → Prop, (∀ (x26 : Int32), (
          R140 x25 x26
         ) → R138 x26) →
         (r22 = (-1) → (
          R138 x7
         )) ∧ (¬ r22 = (-1) → (
          (x7 = (-1) → (
           R138 r22
          )) ∧ (¬ x7 = (-1) → (
           (x7 ≤ r22 → (
            R138 x7
           )) ∧ (¬ x7 ≤ r22 → (
            R138 r22
           ))
          ))
         ))
        ) → R110 x25) →
        ((lg_cmp r19 (-1)) = 0 → (
         R110 x6
        )) ∧ (¬ (lg_cmp r19 (-1)) = 0 → (
         ((lg_cmp x6 (-1)) = 0 → (
          R110 r19
         )) ∧ (¬ (lg_cmp x6 (-1)) = 0 → (
          (0 ≤ (lg_cmp r19 x6) → (
           R110 x6
          )) ∧ (¬ 0 ≤ (lg_cmp r19 x6) → (
           R110 r19
          ))
         ))
        ))))
       )))
      ))
     ))
    ) → R33 x6 x7 x8) →
    R33 x4 x5 0
   ) → R28 x5) →
   (r1 = 0 → (
    R28 (-1)
   )) ∧ (¬ r1 = 0 → (
    R28 0
   ))
  ) → R17 x4) →
  (r1 = 0 → (
   R17 (-1)
  )) ∧ (¬ r1 = 0 → (
   R17 0
  )))
set_option maxRecDepth 20000 in
theorem c_X0_fill (l : Launch) (P : jP) (a1 : Int32) (a2 : Int32) (M : jM) (N : jN) (Q : jM → jN → Prop) (h : w_X0_fill P a1 a2 M N Q) : jC l yX0_fill cX0_fill 11 none rm_X0_fill LC [.ref (P.1 8), .int a1, .int a2] P M N (jqv P (fun M' N' => Q M' N')) := by
  refine jC_of (by decide +kernel) [(0, .ref (P.1 8)), (1, .int a1), (2, .int a2)] (Nat.le_of_ble_eq_true rfl) rfl (fun X o => ?_)
  obtain ⟨E, hE⟩ : ∃ E, E = jE X rm_X0_fill (jqv P (fun M' N' => Q M' N')) := ⟨_, rfl⟩
  rw [← hE]
  unfold w_X0_fill at h
  refine j_aload_n o dX0_fill_0 rfl ?_
  refine j_iload_n o dX0_fill_1 rfl ?_
  refine j_callVi (g := 8) (ci := 0) o (c_X0_isSureAt l P a1 M N _ h) dX0_fill_2 jc_X0_98 jn_X0_isSureAt rfl rfl rfl (fun _ => rfl) rfl rfl (fun r1 Mz2 Nz3 h => ?_)
  obtain ⟨rfl, rfl, h⟩ := h
  refine j_istore_n o [(3, .int r1), (0, .ref (P.1 8)), (1, .int a1), (2, .int a2)] dX0_fill_5 (by decide) rfl ?_
  refine j_iload_n o dX0_fill_6 rfl ?_
  replace h := h (fun (x4 : Int64) => J X P M N 0 0 E 11 17 [(0, .ref (P.1 8)), (1, .int a1), (2, .int a2), (3, .int r1)] [.long x4]) (by
    intro x4 h
    refine j_lstore o [(4, .long x4), (0, .ref (P.1 8)), (1, .int a1), (2, .int a2), (3, .int r1)] dX0_fill_17 (by decide) rfl ?_
    refine j_iload_n o dX0_fill_19 rfl ?_
    replace h := h (fun (x5 : Int32) => J X P M N 0 0 E 11 28 [(0, .ref (P.1 8)), (1, .int a1), (2, .int a2), (3, .int r1), (4, .long x4)] [.int x5]) (by
      intro x5 h
      refine j_istore o [(6, .int x5), (0, .ref (P.1 8)), (1, .int a1), (2, .int a2), (3, .int r1), (4, .long x4)] dX0_fill_28 (by decide) rfl ?_
      refine j_iconst o (v := 0) dX0_fill_30 rfl ?_
      refine j_istore o [(7, .int 0), (6, .int x5), (0, .ref (P.1 8)), (1, .int a1), (2, .int a2), (3, .int r1), (4, .long x4)] dX0_fill_31 (by decide) rfl ?_
      replace h := h (fun (x6 : Int64) (x7 : Int32) (x8 : Int32) => J X P M N 0 0 E 11 33 [(0, .ref (P.1 8)), (1, .int a1), (2, .int a2), (3, .int r1), (4, .long x6), (6, .int x7), (7, .int x8)] []) (by
        intro x6 x7 x8 h
        refine j_iload o dX0_fill_33 rfl ?_
        refine j_aload_n o dX0_fill_35 rfl ?_
        refine j_getf o (g := 8) (slot := 0) (ci := 0) (v := .ref (P.1 2)) rfl jin_X0 (by decide) rfl jf_X0_15 (fun _ => rfl) rfl dX0_fill_36 ?_
        refine j_getf o (g := 2) (slot := 0) (ci := 3) (v := .int (M 2 0)) rfl jin_X3 (by decide) rfl jf_X0_104 (fun _ => rfl) rfl dX0_fill_39 ?_
        replace h := h (J X P M N 0 0 E 11 146 [(0, .ref (P.1 8)), (1, .int a1), (4, .long x6), (6, .int x7)] []) (by
          intro h
          refine j_aload_n o dX0_fill_146 rfl ?_
          refine j_getf o (g := 8) (slot := 4) (ci := 0) (v := .ref (P.1 36)) rfl jin_X0 (by decide) rfl jf_X0_37 (fun _ => rfl) rfl dX0_fill_147 ?_
          refine j_iload_n o dX0_fill_150 rfl ?_
          refine j_lload o dX0_fill_151 rfl ?_
          obtain ⟨hb9, h⟩ := h
          refine j_last o (g := 36) (fun _ _ _ => rfl) hb9 dX0_fill_153 ?_
          refine j_aload_n o dX0_fill_154 rfl ?_
          refine j_getf o (g := 8) (slot := 5) (ci := 0) (v := .ref (P.1 37)) rfl jin_X0 (by decide) rfl jf_X0_40 (fun _ => rfl) rfl dX0_fill_155 ?_
          refine j_iload_n o dX0_fill_158 rfl ?_
          refine j_iload o dX0_fill_159 rfl ?_
          obtain ⟨hb10, h⟩ := h
          refine j_iast o (g := 37) (fun _ _ _ => rfl) hb10 dX0_fill_161 ?_
          rw [hE]
          exact j_vret o dX0_fill_162 ⟨rfl, rfl, h⟩)
        refine j_icmp_ge o (tgt := 146) dX0_fill_42 (by decide) (fun c11 => ?_) (fun c11 => ?_)
        · replace h := h.1 c11
          exact j_pick [0, 1, 4, 5] rfl h
        · replace h := h.2 c11
          refine j_iload_n o dX0_fill_45 rfl ?_
          refine j_if_ne o (tgt := 146) dX0_fill_46 (by decide) (fun c12 => ?_) (fun c12 => ?_)
          · replace h := h.1 c12
            exact j_pick [0, 1, 4, 5] rfl h
          · replace h := h.2 c12
            refine j_aload_n o dX0_fill_49 rfl ?_
            refine j_iload o dX0_fill_50 rfl ?_
            refine j_iload_n o dX0_fill_52 rfl ?_
            refine j_callVi (g := 8) (ci := 0) o (c_X0_mayAsk l P x8 a2 M N _ h) dX0_fill_53 jc_X0_107 jn_X0_mayAsk rfl rfl rfl (fun _ => rfl) rfl rfl (fun r13 Mz14 Nz15 h => ?_)
            obtain ⟨rfl, rfl, h⟩ := h
            replace h := h (fun (x16 : Int64) (x17 : Int32) => J X P M N 0 0 E 11 140 [(0, .ref (P.1 8)), (1, .int a1), (2, .int a2), (3, .int r1), (4, .long x16), (6, .int x17), (7, .int x8)] []) (by
              intro x16 x17 h
              refine j_iinc o (v := x8 + 1) [(7, .int (x8 + 1)), (0, .ref (P.1 8)), (1, .int a1), (2, .int a2), (3, .int r1), (4, .long x16), (6, .int x17)] dX0_fill_140 rfl rfl (by decide) rfl ?_
              refine j_goto o (tgt := 33) dX0_fill_143 (by decide) ?_
              exact j_pick [1, 2, 3, 4, 5, 6, 0] rfl h)
            refine j_if_eq o (tgt := 140) dX0_fill_56 (by decide) (fun c18 => ?_) (fun c18 => ?_)
            · replace h := h.1 c18
              exact j_pick [0, 1, 2, 3, 4, 5, 6] rfl h
            · replace h := h.2 c18
              refine j_aload_n o dX0_fill_59 rfl ?_
              refine j_iload_n o dX0_fill_60 rfl ?_
              refine j_iload o dX0_fill_61 rfl ?_
              refine j_callVl (g := 8) (ci := 0) o (c_X0_meanBy l P a1 x8 M N _ h) dX0_fill_63 jc_X0_110 jn_X0_meanBy rfl rfl rfl (fun _ => rfl) rfl rfl (fun r19 Mz20 Nz21 h => ?_)
              obtain ⟨rfl, rfl, h⟩ := h
              refine j_lstore o [(8, .long r19), (0, .ref (P.1 8)), (1, .int a1), (2, .int a2), (3, .int r1), (4, .long x6), (6, .int x7), (7, .int x8)] dX0_fill_66 (by decide) rfl ?_
              refine j_aload_n o dX0_fill_68 rfl ?_
              refine j_iload_n o dX0_fill_69 rfl ?_
              refine j_iload o dX0_fill_70 rfl ?_
              refine j_callVi (g := 8) (ci := 0) o (c_X0_worstBy l P a1 x8 M N _ h) dX0_fill_72 jc_X0_113 jn_X0_worstBy rfl rfl rfl (fun _ => rfl) rfl rfl (fun r22 Mz23 Nz24 h => ?_)
              obtain ⟨rfl, rfl, h⟩ := h
              refine j_istore o [(10, .int r22), (8, .long r19), (0, .ref (P.1 8)), (1, .int a1), (2, .int a2), (3, .int r1), (4, .long x6), (6, .int x7), (7, .int x8)] dX0_fill_75 (by decide) rfl ?_
              refine j_lload o dX0_fill_77 rfl ?_
              refine j_ldc2 o jk_X0_102 dX0_fill_79 ?_
              refine j_lcmp o dX0_fill_82 ?_
              replace h := h (fun (x25 : Int64) => J X P M N 0 0 E 11 110 [(0, .ref (P.1 8)), (1, .int a1), (2, .int a2), (3, .int r1), (6, .int x7), (7, .int x8), (10, .int r22)] [.long x25]) (by
                intro x25 h
                refine j_lstore o [(4, .long x25), (0, .ref (P.1 8)), (1, .int a1), (2, .int a2), (3, .int r1), (6, .int x7), (7, .int x8), (10, .int r22)] dX0_fill_110 (by decide) rfl ?_
                refine j_iload o dX0_fill_112 rfl ?_
                refine j_iconst o (v := (-1)) dX0_fill_114 rfl ?_
                replace h := h (fun (x26 : Int32) => J X P M N 0 0 E 11 138 [(0, .ref (P.1 8)), (1, .int a1), (2, .int a2), (3, .int r1), (4, .long x25), (7, .int x8)] [.int x26]) (by
                  intro x26 h
                  refine j_istore o [(6, .int x26), (0, .ref (P.1 8)), (1, .int a1), (2, .int a2), (3, .int r1), (4, .long x25), (7, .int x8)] dX0_fill_138 (by decide) rfl ?_
                  exact j_pick [1, 2, 3, 4, 5, 0, 6] rfl h)
                refine j_icmp_eq o (tgt := 136) dX0_fill_115 (by decide) (fun c27 => ?_) (fun c27 => ?_)
                · replace h := h.1 c27
                  refine j_iload o dX0_fill_136 rfl ?_
                  exact j_pick [1, 2, 3, 4, 0, 6] rfl h
                · replace h := h.2 c27
                  refine j_iload o dX0_fill_118 rfl ?_
                  refine j_iconst o (v := (-1)) dX0_fill_120 rfl ?_
                  refine j_icmp_eq o (tgt := 131) dX0_fill_121 (by decide) (fun c28 => ?_) (fun c28 => ?_)
                  · replace h := h.1 c28
                    refine j_iload o dX0_fill_131 rfl ?_
                    refine j_goto o (tgt := 138) dX0_fill_133 (by decide) ?_
                    exact j_pick [1, 2, 3, 4, 0, 6] rfl h
                  · replace h := h.2 c28
                    refine j_iload o dX0_fill_124 rfl ?_
                    refine j_iload o dX0_fill_126 rfl ?_
                    refine j_icmp_ge o (tgt := 136) dX0_fill_128 (by decide) (fun c29 => ?_) (fun c29 => ?_)
                    · replace h := h.1 c29
                      refine j_iload o dX0_fill_136 rfl ?_
                      exact j_pick [1, 2, 3, 4, 0, 6] rfl h
                    · replace h := h.2 c29
                      refine j_iload o dX0_fill_131 rfl ?_
                      refine j_goto o (tgt := 138) dX0_fill_133 (by decide) ?_
                      exact j_pick [1, 2, 3, 4, 0, 6] rfl h)
              refine j_if_eq o (tgt := 108) dX0_fill_83 (by decide) (fun c30 => ?_) (fun c30 => ?_)
              · replace h := h.1 c30
                refine j_lload o dX0_fill_108 rfl ?_
                exact j_pick [2, 3, 4, 5, 7, 8, 0] rfl h
              · replace h := h.2 c30
                refine j_lload o dX0_fill_86 rfl ?_
                refine j_ldc2 o jk_X0_102 dX0_fill_88 ?_
                refine j_lcmp o dX0_fill_91 ?_
                refine j_if_eq o (tgt := 103) dX0_fill_92 (by decide) (fun c31 => ?_) (fun c31 => ?_)
                · replace h := h.1 c31
                  refine j_lload o dX0_fill_103 rfl ?_
                  refine j_goto o (tgt := 110) dX0_fill_105 (by decide) ?_
                  exact j_pick [2, 3, 4, 5, 7, 8, 0] rfl h
                · replace h := h.2 c31
                  refine j_lload o dX0_fill_95 rfl ?_
                  refine j_lload o dX0_fill_97 rfl ?_
                  refine j_lcmp o dX0_fill_99 ?_
                  refine j_if_ge o (tgt := 108) dX0_fill_100 (by decide) (fun c32 => ?_) (fun c32 => ?_)
                  · replace h := h.1 c32
                    refine j_lload o dX0_fill_108 rfl ?_
                    exact j_pick [2, 3, 4, 5, 7, 8, 0] rfl h
                  · replace h := h.2 c32
                    refine j_lload o dX0_fill_103 rfl ?_
                    refine j_goto o (tgt := 110) dX0_fill_105 (by decide) ?_
                    exact j_pick [2, 3, 4, 5, 7, 8, 0] rfl h)
      exact j_pick [2, 3, 4, 5, 6, 1, 0] rfl h)
    refine j_if_eq o (tgt := 27) dX0_fill_20 (by decide) (fun c33 => ?_) (fun c33 => ?_)
    · replace h := h.1 c33
      refine j_iconst o (v := (-1)) dX0_fill_27 rfl ?_
      exact j_pick [1, 2, 3, 4, 0] rfl h
    · replace h := h.2 c33
      refine j_iconst o (v := 0) dX0_fill_23 rfl ?_
      refine j_goto o (tgt := 28) dX0_fill_24 (by decide) ?_
      exact j_pick [1, 2, 3, 4, 0] rfl h)
  refine j_if_eq o (tgt := 14) dX0_fill_7 (by decide) (fun c34 => ?_) (fun c34 => ?_)
  · replace h := h.1 c34
    refine j_ldc2 o jk_X0_102 dX0_fill_14 ?_
    exact j_pick [1, 2, 3, 0] rfl h
  · replace h := h.2 c34
    refine j_lconst o (v := 0) dX0_fill_10 rfl ?_
    refine j_goto o (tgt := 17) dX0_fill_11 (by decide) ?_
    exact j_pick [1, 2, 3, 0] rfl h

abbrev rm_X11_lowest : Room := { frames := 1, cells := 0, slots := 0, locals := 20 }
def w_X11_lowest (P : jP) (a1 : Int32) (Q : Int32 → Prop) : Prop :=
  w_J6_bitCount_0f7a4 P ((a1 &&& (-a1)) - 1) (fun r1 =>
  Q r1)
set_option maxRecDepth 20000 in
theorem c_X11_lowest (l : Launch) (P : jP) (a1 : Int32) (M : jM) (N : jN) (Q : Int32 → Prop) (h : w_X11_lowest P a1 Q) : jC l yX11_lowest cX11_lowest 1 (some .int) rm_X11_lowest LC [.int a1] P M N (jqi P (fun r M' N' => M = M' ∧ N = N' ∧ Q r )) := by
  refine jC_of (by decide +kernel) [(0, .int a1)] (Nat.le_of_ble_eq_true rfl) rfl (fun X o => ?_)
  obtain ⟨E, hE⟩ : ∃ E, E = jE X rm_X11_lowest (jqi P (fun r M' N' => M = M' ∧ N = N' ∧ Q r )) := ⟨_, rfl⟩
  rw [← hE]
  unfold w_X11_lowest at h
  refine j_iload_n o dX11_lowest_0 rfl ?_
  refine j_iload_n o dX11_lowest_1 rfl ?_
  refine j_ineg o dX11_lowest_2 ?_
  refine j_iand o dX11_lowest_3 ?_
  refine j_iconst o (v := 1) dX11_lowest_4 rfl ?_
  refine j_isub o dX11_lowest_5 ?_
  refine j_callSi o (c_J6_bitCount_0f7a4 l P ((a1 &&& (-a1)) - 1) M N _ h) dX11_lowest_6 jc_X11_389 jn_J6_bitCount_0f7a4 rfl rfl rfl rfl (fun r1 Mz2 Nz3 h => ?_)
  obtain ⟨rfl, rfl, h⟩ := h
  rw [hE]
  exact j_iret o dX11_lowest_9 ⟨_, rfl, rfl, rfl, rfl, h⟩

abbrev rm_X5_shareOfOne : Room := { frames := 0, cells := 0, slots := 0, locals := 0 }
def w_X5_shareOfOne (P : jP) (a1 : Int32) (a2 : Int32) (a3 : Int32) (M : jM) (Q : Int64 → Prop) : Prop :=
  vp_in a1 (4) ∧
  ∀ R12 : Int64 → Int32 → Prop, (∀ (x2 : Int64) (x3 : Int32), (
   ((M 7 0) ≤ x3 → (
    Q x2
   )) ∧ (¬ (M 7 0) ≤ x3 → (
    vp_in a1 (4) ∧
    jin P (31 + a1.toNatClampNeg) x3 ∧
    ∀ R46 : Int32 → Prop, (∀ (x7 : Int32), (
     ∀ R62 : Int32 → Prop, (∀ (x8 : Int32), (
      ∀ R94 : Int64 → Prop, (∀ (x9 : Int64), (
       R12 (x2 * x9) (x3 + 1)
      ) → R94 x9) →
      (¬ x7 = 0 → (
       (x8 = 0 → (
        R94 ((10 - (M (31 + a1.toNatClampNeg) x3.toNatClampNeg)).toInt64)
       )) ∧ (¬ x8 = 0 → (
        R94 ((M (31 + a1.toNatClampNeg) x3.toNatClampNeg).toInt64)
       ))
      )) ∧ (x7 = 0 → (
       R94 10
      ))
     ) → R62 x8) →
     (((a3 >>> (x3 &&& 31)) &&& 1) = 0 → (
      R62 0
     )) ∧ (¬ ((a3 >>> (x3 &&& 31)) &&& 1) = 0 → (
      R62 1
     ))
    ) → R46 x7) →
    (((a2 >>> (x3 &&& 31)) &&& 1) = 0 → (
     R46 0
    )) ∧ (¬ ((a2 >>> (x3 &&& 31)) &&& 1) = 0 → (
     R46 1
    ))
   ))
  ) → R12 x2 x3) →
  R12 ((M 29 a1.toNatClampNeg).toInt64) 0
set_option maxRecDepth 20000 in
theorem c_X5_shareOfOne (l : Launch) (P : jP) (a1 : Int32) (a2 : Int32) (a3 : Int32) (M : jM) (N : jN) (Q : Int64 → Prop) (h : w_X5_shareOfOne P a1 a2 a3 M Q) : jC l yX5_shareOfOne cX5_shareOfOne 10 (some .long) rm_X5_shareOfOne LC [.ref (P.1 7), .int a1, .int a2, .int a3] P M N (jql P (fun r M' N' => M = M' ∧ N = N' ∧ Q r )) := by
  refine jC_of (by decide +kernel) [(0, .ref (P.1 7)), (1, .int a1), (2, .int a2), (3, .int a3)] (Nat.le_of_ble_eq_true rfl) rfl (fun X o => ?_)
  obtain ⟨E, hE⟩ : ∃ E, E = jE X rm_X5_shareOfOne (jql P (fun r M' N' => M = M' ∧ N = N' ∧ Q r )) := ⟨_, rfl⟩
  rw [← hE]
  unfold w_X5_shareOfOne at h
  refine j_aload_n o dX5_shareOfOne_0 rfl ?_
  refine j_getf o (g := 7) (slot := 2) (ci := 5) (v := .ref (P.1 29)) rfl jin_X5 (by decide) rfl jf_X5_9 (fun _ => rfl) rfl dX5_shareOfOne_1 ?_
  refine j_iload_n o dX5_shareOfOne_4 rfl ?_
  obtain ⟨hb1, h⟩ := h
  refine j_iald o (g := 29) (fun _ => rfl) hb1 dX5_shareOfOne_5 ?_
  refine j_i2l o dX5_shareOfOne_6 ?_
  refine j_lstore o [(4, .long ((M 29 a1.toNatClampNeg).toInt64)), (0, .ref (P.1 7)), (1, .int a1), (2, .int a2), (3, .int a3)] dX5_shareOfOne_7 (by decide) rfl ?_
  refine j_iconst o (v := 0) dX5_shareOfOne_9 rfl ?_
  refine j_istore o [(6, .int 0), (4, .long ((M 29 a1.toNatClampNeg).toInt64)), (0, .ref (P.1 7)), (1, .int a1), (2, .int a2), (3, .int a3)] dX5_shareOfOne_10 (by decide) rfl ?_
  replace h := h (fun (x2 : Int64) (x3 : Int32) => J X P M N 0 0 E 10 12 [(0, .ref (P.1 7)), (1, .int a1), (2, .int a2), (3, .int a3), (4, .long x2), (6, .int x3)] []) (by
    intro x2 x3 h
    refine j_iload o dX5_shareOfOne_12 rfl ?_
    refine j_aload_n o dX5_shareOfOne_14 rfl ?_
    refine j_getf o (g := 7) (slot := 0) (ci := 5) (v := .int (M 7 0)) rfl jin_X5 (by decide) rfl jf_X5_15 (fun _ => rfl) rfl dX5_shareOfOne_15 ?_
    refine j_icmp_ge o (tgt := 103) dX5_shareOfOne_18 (by decide) (fun c4 => ?_) (fun c4 => ?_)
    · replace h := h.1 c4
      refine j_lload o dX5_shareOfOne_103 rfl ?_
      rw [hE]
      exact j_lret o dX5_shareOfOne_105 ⟨_, rfl, rfl, rfl, rfl, h⟩
    · replace h := h.2 c4
      refine j_aload_n o dX5_shareOfOne_21 rfl ?_
      refine j_getf o (g := 7) (slot := 3) (ci := 5) (v := .ref (P.1 30)) rfl jin_X5 (by decide) rfl jf_X5_21 (fun _ => rfl) rfl dX5_shareOfOne_22 ?_
      refine j_iload_n o dX5_shareOfOne_25 rfl ?_
      obtain ⟨hb5, h⟩ := h
      refine j_aaldInts2 o (g := 30) (fun _ => rfl) hb5 dX5_shareOfOne_26 ?_
      refine j_iload o dX5_shareOfOne_27 rfl ?_
      obtain ⟨hb6, h⟩ := h
      obtain ⟨nnhb6, hchb6, hihb6⟩ := hb6
      refine j_iald o (g := 31 + a1.toNatClampNeg) (fun tA => LC_ia hchb6 tA _ _) hihb6 dX5_shareOfOne_29 ?_
      refine j_istore o [(7, .int (M (31 + a1.toNatClampNeg) x3.toNatClampNeg)), (0, .ref (P.1 7)), (1, .int a1), (2, .int a2), (3, .int a3), (4, .long x2), (6, .int x3)] dX5_shareOfOne_30 (by decide) rfl ?_
      refine j_iload_n o dX5_shareOfOne_32 rfl ?_
      refine j_iload o dX5_shareOfOne_33 rfl ?_
      refine j_ishr o dX5_shareOfOne_35 ?_
      refine j_iconst o (v := 1) dX5_shareOfOne_36 rfl ?_
      refine j_iand o dX5_shareOfOne_37 ?_
      replace h := h (fun (x7 : Int32) => J X P M N 0 0 E 10 46 [(0, .ref (P.1 7)), (1, .int a1), (2, .int a2), (3, .int a3), (4, .long x2), (6, .int x3), (7, .int (M (31 + a1.toNatClampNeg) x3.toNatClampNeg))] [.int x7]) (by
        intro x7 h
        refine j_istore o [(8, .int x7), (0, .ref (P.1 7)), (1, .int a1), (2, .int a2), (3, .int a3), (4, .long x2), (6, .int x3), (7, .int (M (31 + a1.toNatClampNeg) x3.toNatClampNeg))] dX5_shareOfOne_46 (by decide) rfl ?_
        refine j_iload_n o dX5_shareOfOne_48 rfl ?_
        refine j_iload o dX5_shareOfOne_49 rfl ?_
        refine j_ishr o dX5_shareOfOne_51 ?_
        refine j_iconst o (v := 1) dX5_shareOfOne_52 rfl ?_
        refine j_iand o dX5_shareOfOne_53 ?_
        replace h := h (fun (x8 : Int32) => J X P M N 0 0 E 10 62 [(0, .ref (P.1 7)), (1, .int a1), (2, .int a2), (3, .int a3), (4, .long x2), (6, .int x3), (7, .int (M (31 + a1.toNatClampNeg) x3.toNatClampNeg)), (8, .int x7)] [.int x8]) (by
          intro x8 h
          refine j_istore o [(9, .int x8), (0, .ref (P.1 7)), (1, .int a1), (2, .int a2), (3, .int a3), (4, .long x2), (6, .int x3), (7, .int (M (31 + a1.toNatClampNeg) x3.toNatClampNeg)), (8, .int x7)] dX5_shareOfOne_62 (by decide) rfl ?_
          refine j_lload o dX5_shareOfOne_64 rfl ?_
          refine j_iload o dX5_shareOfOne_66 rfl ?_
          replace h := h (fun (x9 : Int64) => J X P M N 0 0 E 10 94 [(0, .ref (P.1 7)), (1, .int a1), (2, .int a2), (3, .int a3), (6, .int x3)] [.long x9, .long x2]) (by
            intro x9 h
            refine j_lmul o dX5_shareOfOne_94 ?_
            refine j_lstore o [(4, .long (x2 * x9)), (0, .ref (P.1 7)), (1, .int a1), (2, .int a2), (3, .int a3), (6, .int x3)] dX5_shareOfOne_95 (by decide) rfl ?_
            refine j_iinc o (v := x3 + 1) [(6, .int (x3 + 1)), (4, .long (x2 * x9)), (0, .ref (P.1 7)), (1, .int a1), (2, .int a2), (3, .int a3)] dX5_shareOfOne_97 rfl rfl (by decide) rfl ?_
            refine j_goto o (tgt := 12) dX5_shareOfOne_100 (by decide) ?_
            exact j_pick [2, 3, 4, 5, 1, 0] rfl h)
          refine j_if_ne o (tgt := 77) dX5_shareOfOne_68 (by decide) (fun c10 => ?_) (fun c10 => ?_)
          · replace h := h.1 c10
            refine j_iload o dX5_shareOfOne_77 rfl ?_
            refine j_if_eq o (tgt := 88) dX5_shareOfOne_79 (by decide) (fun c11 => ?_) (fun c11 => ?_)
            · replace h := h.1 c11
              refine j_bipush o (v := 10) dX5_shareOfOne_88 rfl ?_
              refine j_iload o dX5_shareOfOne_90 rfl ?_
              refine j_isub o dX5_shareOfOne_92 ?_
              refine j_i2l o dX5_shareOfOne_93 ?_
              exact j_pick [1, 2, 3, 4, 6] rfl h
            · replace h := h.2 c11
              refine j_iload o dX5_shareOfOne_82 rfl ?_
              refine j_i2l o dX5_shareOfOne_84 ?_
              refine j_goto o (tgt := 94) dX5_shareOfOne_85 (by decide) ?_
              exact j_pick [1, 2, 3, 4, 6] rfl h
          · replace h := h.2 c10
            refine j_ldc2 o jk_X5_27 dX5_shareOfOne_71 ?_
            refine j_goto o (tgt := 94) dX5_shareOfOne_74 (by decide) ?_
            exact j_pick [1, 2, 3, 4, 6] rfl h)
        refine j_if_eq o (tgt := 61) dX5_shareOfOne_54 (by decide) (fun c12 => ?_) (fun c12 => ?_)
        · replace h := h.1 c12
          refine j_iconst o (v := 0) dX5_shareOfOne_61 rfl ?_
          exact j_pick [1, 2, 3, 4, 5, 6, 7, 0] rfl h
        · replace h := h.2 c12
          refine j_iconst o (v := 1) dX5_shareOfOne_57 rfl ?_
          refine j_goto o (tgt := 62) dX5_shareOfOne_58 (by decide) ?_
          exact j_pick [1, 2, 3, 4, 5, 6, 7, 0] rfl h)
      refine j_if_eq o (tgt := 45) dX5_shareOfOne_38 (by decide) (fun c13 => ?_) (fun c13 => ?_)
      · replace h := h.1 c13
        refine j_iconst o (v := 0) dX5_shareOfOne_45 rfl ?_
        exact j_pick [1, 2, 3, 4, 5, 6, 0] rfl h
      · replace h := h.2 c13
        refine j_iconst o (v := 1) dX5_shareOfOne_41 rfl ?_
        refine j_goto o (tgt := 46) dX5_shareOfOne_42 (by decide) ?_
        exact j_pick [1, 2, 3, 4, 5, 6, 0] rfl h)
  exact j_pick [2, 3, 4, 5, 1, 0] rfl h

abbrev rm_X5_shareOfAll : Room := { frames := 1, cells := 0, slots := 0, locals := 29 }
def w_X5_shareOfAll (P : jP) (a1 : Int32) (a2 : Int32) (M : jM) (Q : Int64 → Prop) : Prop :=
  ∀ R5 : Int64 → Int32 → Prop, (∀ (x1 : Int64) (x2 : Int32), (
   ((M 7 1) ≤ x2 → (
    Q x1
   )) ∧ (¬ (M 7 1) ≤ x2 → (
    w_X5_shareOfOne P x2 a1 a2 M (fun r4 =>
    R5 (x1 + r4) (x2 + 1))
   ))
  ) → R5 x1 x2) →
  R5 0 0
set_option maxRecDepth 20000 in
theorem c_X5_shareOfAll (l : Launch) (P : jP) (a1 : Int32) (a2 : Int32) (M : jM) (N : jN) (Q : Int64 → Prop) (h : w_X5_shareOfAll P a1 a2 M Q) : jC l yX5_shareOfAll cX5_shareOfAll 6 (some .long) rm_X5_shareOfAll LC [.ref (P.1 7), .int a1, .int a2] P M N (jql P (fun r M' N' => M = M' ∧ N = N' ∧ Q r )) := by
  refine jC_of (by decide +kernel) [(0, .ref (P.1 7)), (1, .int a1), (2, .int a2)] (Nat.le_of_ble_eq_true rfl) rfl (fun X o => ?_)
  obtain ⟨E, hE⟩ : ∃ E, E = jE X rm_X5_shareOfAll (jql P (fun r M' N' => M = M' ∧ N = N' ∧ Q r )) := ⟨_, rfl⟩
  rw [← hE]
  unfold w_X5_shareOfAll at h
  refine j_lconst o (v := 0) dX5_shareOfAll_0 rfl ?_
  refine j_lstore_n o [(3, .long 0), (0, .ref (P.1 7)), (1, .int a1), (2, .int a2)] dX5_shareOfAll_1 (by decide) rfl ?_
  refine j_iconst o (v := 0) dX5_shareOfAll_2 rfl ?_
  refine j_istore o [(5, .int 0), (3, .long 0), (0, .ref (P.1 7)), (1, .int a1), (2, .int a2)] dX5_shareOfAll_3 (by decide) rfl ?_
  replace h := h (fun (x1 : Int64) (x2 : Int32) => J X P M N 0 0 E 6 5 [(0, .ref (P.1 7)), (1, .int a1), (2, .int a2), (3, .long x1), (5, .int x2)] []) (by
    intro x1 x2 h
    refine j_iload o dX5_shareOfAll_5 rfl ?_
    refine j_aload_n o dX5_shareOfAll_7 rfl ?_
    refine j_getf o (g := 7) (slot := 1) (ci := 5) (v := .int (M 7 1)) rfl jin_X5 (by decide) rfl jf_X5_24 (fun _ => rfl) rfl dX5_shareOfAll_8 ?_
    refine j_icmp_ge o (tgt := 31) dX5_shareOfAll_11 (by decide) (fun c3 => ?_) (fun c3 => ?_)
    · replace h := h.1 c3
      refine j_lload_n o dX5_shareOfAll_31 rfl ?_
      rw [hE]
      exact j_lret o dX5_shareOfAll_32 ⟨_, rfl, rfl, rfl, rfl, h⟩
    · replace h := h.2 c3
      refine j_lload_n o dX5_shareOfAll_14 rfl ?_
      refine j_aload_n o dX5_shareOfAll_15 rfl ?_
      refine j_iload o dX5_shareOfAll_16 rfl ?_
      refine j_iload_n o dX5_shareOfAll_18 rfl ?_
      refine j_iload_n o dX5_shareOfAll_19 rfl ?_
      refine j_callVl (g := 7) (ci := 5) o (c_X5_shareOfOne l P x2 a1 a2 M N _ h) dX5_shareOfAll_20 jc_X5_29 jn_X5_shareOfOne rfl rfl rfl (fun _ => rfl) rfl rfl (fun r4 Mz5 Nz6 h => ?_)
      obtain ⟨rfl, rfl, h⟩ := h
      refine j_ladd o dX5_shareOfAll_23 ?_
      refine j_lstore_n o [(3, .long (x1 + r4)), (0, .ref (P.1 7)), (1, .int a1), (2, .int a2), (5, .int x2)] dX5_shareOfAll_24 (by decide) rfl ?_
      refine j_iinc o (v := x2 + 1) [(5, .int (x2 + 1)), (3, .long (x1 + r4)), (0, .ref (P.1 7)), (1, .int a1), (2, .int a2)] dX5_shareOfAll_25 rfl rfl (by decide) rfl ?_
      refine j_goto o (tgt := 5) dX5_shareOfAll_28 (by decide) ?_
      exact j_pick [2, 3, 4, 1, 0] rfl h)
  exact j_pick [2, 3, 4, 1, 0] rfl h

abbrev rm_X0_shareAt : Room := { frames := 2, cells := 0, slots := 0, locals := 54 }
def w_X0_shareAt (P : jP) (a1 : Int32) (a2 : Int32) (a3 : Int32) (M : jM) (N : jN) (Q : Int64 → Prop) : Prop :=
  (¬ a2 = (M 2 1) → (
   w_X11_lowest P ((M 2 1) &&& (a2 ^^^ (-1))) (fun r2 =>
   vp_in r2 (P.2.2 0) ∧
   vp_in (a1 + (M 15 r2.toNatClampNeg)) (P.2.2 2) ∧
   vp_in (a1 + (2 * (M 15 r2.toNatClampNeg))) (P.2.2 2) ∧
   Q ((N 35 (a1 + (M 15 r2.toNatClampNeg)).toNatClampNeg) + (N 35 (a1 + (2 * (M 15 r2.toNatClampNeg))).toNatClampNeg)))
  )) ∧ (a2 = (M 2 1) → (
   w_X5_shareOfAll P a2 a3 M (fun r8 =>
   Q r8)
  ))
set_option maxRecDepth 20000 in
theorem c_X0_shareAt (l : Launch) (P : jP) (a1 : Int32) (a2 : Int32) (a3 : Int32) (M : jM) (N : jN) (Q : Int64 → Prop) (h : w_X0_shareAt P a1 a2 a3 M N Q) : jC l yX0_shareAt cX0_shareAt 5 (some .long) rm_X0_shareAt LC [.ref (P.1 8), .int a1, .int a2, .int a3] P M N (jql P (fun r M' N' => M = M' ∧ N = N' ∧ Q r )) := by
  refine jC_of (by decide +kernel) [(0, .ref (P.1 8)), (1, .int a1), (2, .int a2), (3, .int a3)] (Nat.le_of_ble_eq_true rfl) rfl (fun X o => ?_)
  obtain ⟨E, hE⟩ : ∃ E, E = jE X rm_X0_shareAt (jql P (fun r M' N' => M = M' ∧ N = N' ∧ Q r )) := ⟨_, rfl⟩
  rw [← hE]
  unfold w_X0_shareAt at h
  refine j_iload_n o dX0_shareAt_0 rfl ?_
  refine j_aload_n o dX0_shareAt_1 rfl ?_
  refine j_getf o (g := 8) (slot := 0) (ci := 0) (v := .ref (P.1 2)) rfl jin_X0 (by decide) rfl jf_X0_15 (fun _ => rfl) rfl dX0_shareAt_2 ?_
  refine j_getf o (g := 2) (slot := 1) (ci := 3) (v := .int (M 2 1)) rfl jin_X3 (by decide) rfl jf_X0_61 (fun _ => rfl) rfl dX0_shareAt_5 ?_
  refine j_icmp_ne o (tgt := 21) dX0_shareAt_8 (by decide) (fun c1 => ?_) (fun c1 => ?_)
  · replace h := h.1 c1
    refine j_aload_n o dX0_shareAt_21 rfl ?_
    refine j_getf o (g := 8) (slot := 0) (ci := 0) (v := .ref (P.1 2)) rfl jin_X0 (by decide) rfl jf_X0_15 (fun _ => rfl) rfl dX0_shareAt_22 ?_
    refine j_getf o (g := 2) (slot := 4) (ci := 3) (v := .ref (P.1 15)) rfl jin_X3 (by decide) rfl jf_X0_92 (fun _ => rfl) rfl dX0_shareAt_25 ?_
    refine j_aload_n o dX0_shareAt_28 rfl ?_
    refine j_getf o (g := 8) (slot := 0) (ci := 0) (v := .ref (P.1 2)) rfl jin_X0 (by decide) rfl jf_X0_15 (fun _ => rfl) rfl dX0_shareAt_29 ?_
    refine j_getf o (g := 2) (slot := 1) (ci := 3) (v := .int (M 2 1)) rfl jin_X3 (by decide) rfl jf_X0_61 (fun _ => rfl) rfl dX0_shareAt_32 ?_
    refine j_iload_n o dX0_shareAt_35 rfl ?_
    refine j_iconst o (v := (-1)) dX0_shareAt_36 rfl ?_
    refine j_ixor o dX0_shareAt_37 ?_
    refine j_iand o dX0_shareAt_38 ?_
    refine j_callSNi o (c_X11_lowest l P ((M 2 1) &&& (a2 ^^^ (-1))) M N _ h) dX0_shareAt_39 jc_X0_95 jq_X0_95 jn_X11_lowest rfl rfl rfl rfl (fun r2 Mz3 Nz4 h => ?_)
    obtain ⟨rfl, rfl, h⟩ := h
    obtain ⟨hb5, h⟩ := h
    refine j_iald o (g := 15) (fun _ => rfl) hb5 dX0_shareAt_42 ?_
    refine j_istore o [(4, .int (M 15 r2.toNatClampNeg)), (0, .ref (P.1 8)), (1, .int a1), (2, .int a2), (3, .int a3)] dX0_shareAt_43 (by decide) rfl ?_
    refine j_aload_n o dX0_shareAt_45 rfl ?_
    refine j_getf o (g := 8) (slot := 3) (ci := 0) (v := .ref (P.1 35)) rfl jin_X0 (by decide) rfl jf_X0_33 (fun _ => rfl) rfl dX0_shareAt_46 ?_
    refine j_iload_n o dX0_shareAt_49 rfl ?_
    refine j_iload o dX0_shareAt_50 rfl ?_
    refine j_iadd o dX0_shareAt_52 ?_
    obtain ⟨hb6, h⟩ := h
    refine j_lald o (g := 35) (fun _ => rfl) hb6 dX0_shareAt_53 ?_
    refine j_aload_n o dX0_shareAt_54 rfl ?_
    refine j_getf o (g := 8) (slot := 3) (ci := 0) (v := .ref (P.1 35)) rfl jin_X0 (by decide) rfl jf_X0_33 (fun _ => rfl) rfl dX0_shareAt_55 ?_
    refine j_iload_n o dX0_shareAt_58 rfl ?_
    refine j_iconst o (v := 2) dX0_shareAt_59 rfl ?_
    refine j_iload o dX0_shareAt_60 rfl ?_
    refine j_imul o dX0_shareAt_62 ?_
    refine j_iadd o dX0_shareAt_63 ?_
    obtain ⟨hb7, h⟩ := h
    refine j_lald o (g := 35) (fun _ => rfl) hb7 dX0_shareAt_64 ?_
    refine j_ladd o dX0_shareAt_65 ?_
    rw [hE]
    exact j_lret o dX0_shareAt_66 ⟨_, rfl, rfl, rfl, rfl, h⟩
  · replace h := h.2 c1
    refine j_aload_n o dX0_shareAt_11 rfl ?_
    refine j_getf o (g := 8) (slot := 2) (ci := 0) (v := .ref (P.1 7)) rfl jin_X0 (by decide) rfl jf_X0_23 (fun _ => rfl) rfl dX0_shareAt_12 ?_
    refine j_iload_n o dX0_shareAt_15 rfl ?_
    refine j_iload_n o dX0_shareAt_16 rfl ?_
    refine j_callVl (g := 7) (ci := 5) o (c_X5_shareOfAll l P a2 a3 M N _ h) dX0_shareAt_17 jc_X0_86 jn_X5_shareOfAll rfl rfl rfl (fun _ => rfl) rfl rfl (fun r8 Mz9 Nz10 h => ?_)
    obtain ⟨rfl, rfl, h⟩ := h
    rw [hE]
    exact j_lret o dX0_shareAt_20 ⟨_, rfl, rfl, rfl, rfl, h⟩

abbrev rm_X3_place : Room := { frames := 0, cells := 0, slots := 0, locals := 0 }
def w_X3_place (P : jP) (a1 : Int32) (a2 : Int32) (M : jM) (Q : Int32 → Prop) : Prop :=
  vp_in a1 (P.2.2 1) ∧
  vp_in a2 (P.2.2 1) ∧
  Q ((M 16 a1.toNatClampNeg) + (M 16 a2.toNatClampNeg))
set_option maxRecDepth 20000 in
theorem c_X3_place (l : Launch) (P : jP) (a1 : Int32) (a2 : Int32) (M : jM) (N : jN) (Q : Int32 → Prop) (h : w_X3_place P a1 a2 M Q) : jC l yX3_place cX3_place 3 (some .int) rm_X3_place LC [.ref (P.1 2), .int a1, .int a2] P M N (jqi P (fun r M' N' => M = M' ∧ N = N' ∧ Q r )) := by
  refine jC_of (by decide +kernel) [(0, .ref (P.1 2)), (1, .int a1), (2, .int a2)] (Nat.le_of_ble_eq_true rfl) rfl (fun X o => ?_)
  obtain ⟨E, hE⟩ : ∃ E, E = jE X rm_X3_place (jqi P (fun r M' N' => M = M' ∧ N = N' ∧ Q r )) := ⟨_, rfl⟩
  rw [← hE]
  unfold w_X3_place at h
  refine j_aload_n o dX3_place_0 rfl ?_
  refine j_getf o (g := 2) (slot := 5) (ci := 3) (v := .ref (P.1 16)) rfl jin_X3 (by decide) rfl jf_X3_23 (fun _ => rfl) rfl dX3_place_1 ?_
  refine j_iload_n o dX3_place_4 rfl ?_
  obtain ⟨hb1, h⟩ := h
  refine j_iald o (g := 16) (fun _ => rfl) hb1 dX3_place_5 ?_
  refine j_aload_n o dX3_place_6 rfl ?_
  refine j_getf o (g := 2) (slot := 5) (ci := 3) (v := .ref (P.1 16)) rfl jin_X3 (by decide) rfl jf_X3_23 (fun _ => rfl) rfl dX3_place_7 ?_
  refine j_iload_n o dX3_place_10 rfl ?_
  obtain ⟨hb2, h⟩ := h
  refine j_iald o (g := 16) (fun _ => rfl) hb2 dX3_place_11 ?_
  refine j_iadd o dX3_place_12 ?_
  rw [hE]
  exact j_iret o dX3_place_13 ⟨_, rfl, rfl, rfl, rfl, h⟩

abbrev rm_X0_fillAll : Room := { frames := 3, cells := 0, slots := 0, locals := 78 }
def w_X0_fillAll (P : jP) (a1 : Int32) (M : jM) (N : jN) (Q : jM → jN → Prop) : Prop :=
  ∀ R12 : Int32 → Int32 → jM → jN → Prop, (∀ (x1 : Int32) (x2 : Int32) (M3 : jM) (N4 : jN), (
   w_J6_bitCount_0f7a4 P a1 (fun r5 =>
   (((1 : Int32) <<< (r5 &&& 31)) ≤ x2 → (
    Q M3 N4
   )) ∧ (¬ ((1 : Int32) <<< (r5 &&& 31)) ≤ x2 → (
    w_X3_place P ((M 8 8) ||| a1) ((M3 8 9) ||| x1) M3 (fun r9 =>
    w_X0_shareAt P r9 ((M 8 8) ||| a1) ((M3 8 9) ||| x1) M3 N4 (fun r12 =>
    vp_in r9 (P.2.2 2) ∧
    w_X0_fill P r9 ((M3 2 1) &&& (((M 8 8) ||| a1) ^^^ (-1))) M3 (upN N4 35 r9.toNatClampNeg r12) (fun M16 N17 =>
    R12 ((x1 - a1) &&& a1) (x2 + 1) M16 N17)))
   )))
  ) → R12 x1 x2 M3 N4) →
  R12 0 0 M N
set_option maxRecDepth 20000 in
theorem c_X0_fillAll (l : Launch) (P : jP) (a1 : Int32) (M : jM) (N : jN) (Q : jM → jN → Prop) (h : w_X0_fillAll P a1 M N Q) : jC l yX0_fillAll cX0_fillAll 6 none rm_X0_fillAll LC [.ref (P.1 8), .int a1] P M N (jqv P (fun M' N' => Q M' N')) := by
  refine jC_of (by decide +kernel) [(0, .ref (P.1 8)), (1, .int a1)] (Nat.le_of_ble_eq_true rfl) rfl (fun X o => ?_)
  obtain ⟨E, hE⟩ : ∃ E, E = jE X rm_X0_fillAll (jqv P (fun M' N' => Q M' N')) := ⟨_, rfl⟩
  rw [← hE]
  unfold w_X0_fillAll at h
  refine j_aload_n o dX0_fillAll_0 rfl ?_
  refine j_getf o (g := 8) (slot := 8) (ci := 0) (v := .int (M 8 8)) rfl jin_X0 (by decide) rfl jf_X0_55 (fun _ => rfl) rfl dX0_fillAll_1 ?_
  refine j_iload_n o dX0_fillAll_4 rfl ?_
  refine j_ior o dX0_fillAll_5 ?_
  refine j_istore_n o [(2, .int ((M 8 8) ||| a1)), (0, .ref (P.1 8)), (1, .int a1)] dX0_fillAll_6 (by decide) rfl ?_
  refine j_iconst o (v := 0) dX0_fillAll_7 rfl ?_
  refine j_istore_n o [(3, .int 0), (2, .int ((M 8 8) ||| a1)), (0, .ref (P.1 8)), (1, .int a1)] dX0_fillAll_8 (by decide) rfl ?_
  refine j_iconst o (v := 0) dX0_fillAll_9 rfl ?_
  refine j_istore o [(4, .int 0), (3, .int 0), (2, .int ((M 8 8) ||| a1)), (0, .ref (P.1 8)), (1, .int a1)] dX0_fillAll_10 (by decide) rfl ?_
  replace h := h (fun (x1 : Int32) (x2 : Int32) (M3 : jM) (N4 : jN) => J X P M3 N4 0 0 E 6 12 [(0, .ref (P.1 8)), (1, .int a1), (2, .int ((M 8 8) ||| a1)), (3, .int x1), (4, .int x2)] []) (by
    intro x1 x2 M3 N4 h
    refine j_iload o dX0_fillAll_12 rfl ?_
    refine j_iconst o (v := 1) dX0_fillAll_14 rfl ?_
    refine j_iload_n o dX0_fillAll_15 rfl ?_
    refine j_callSi o (c_J6_bitCount_0f7a4 l P a1 M3 N4 _ h) dX0_fillAll_16 jc_X0_64 jn_J6_bitCount_0f7a4 rfl rfl rfl rfl (fun r5 Mz6 Nz7 h => ?_)
    obtain ⟨rfl, rfl, h⟩ := h
    refine j_ishl o dX0_fillAll_19 ?_
    refine j_icmp_ge o (tgt := 88) dX0_fillAll_20 (by decide) (fun c8 => ?_) (fun c8 => ?_)
    · replace h := h.1 c8
      rw [hE]
      exact j_vret o dX0_fillAll_88 ⟨rfl, rfl, h⟩
    · replace h := h.2 c8
      refine j_aload_n o dX0_fillAll_23 rfl ?_
      refine j_getf o (g := 8) (slot := 0) (ci := 0) (v := .ref (P.1 2)) rfl jin_X0 (by decide) rfl jf_X0_15 (fun _ => rfl) rfl dX0_fillAll_24 ?_
      refine j_iload_n o dX0_fillAll_27 rfl ?_
      refine j_aload_n o dX0_fillAll_28 rfl ?_
      refine j_getf o (g := 8) (slot := 9) (ci := 0) (v := .int (M3 8 9)) rfl jin_X0 (by decide) rfl jf_X0_58 (fun _ => rfl) rfl dX0_fillAll_29 ?_
      refine j_iload_n o dX0_fillAll_32 rfl ?_
      refine j_ior o dX0_fillAll_33 ?_
      refine j_callVi (g := 2) (ci := 3) o (c_X3_place l P ((M 8 8) ||| a1) ((M3 8 9) ||| x1) M3 N4 _ h) dX0_fillAll_34 jc_X0_74 jn_X3_place rfl rfl rfl (fun _ => rfl) rfl rfl (fun r9 Mz10 Nz11 h => ?_)
      obtain ⟨rfl, rfl, h⟩ := h
      refine j_istore o [(5, .int r9), (0, .ref (P.1 8)), (1, .int a1), (2, .int ((M 8 8) ||| a1)), (3, .int x1), (4, .int x2)] dX0_fillAll_37 (by decide) rfl ?_
      refine j_aload_n o dX0_fillAll_39 rfl ?_
      refine j_getf o (g := 8) (slot := 3) (ci := 0) (v := .ref (P.1 35)) rfl jin_X0 (by decide) rfl jf_X0_33 (fun _ => rfl) rfl dX0_fillAll_40 ?_
      refine j_iload o dX0_fillAll_43 rfl ?_
      refine j_aload_n o dX0_fillAll_45 rfl ?_
      refine j_iload o dX0_fillAll_46 rfl ?_
      refine j_iload_n o dX0_fillAll_48 rfl ?_
      refine j_aload_n o dX0_fillAll_49 rfl ?_
      refine j_getf o (g := 8) (slot := 9) (ci := 0) (v := .int (M3 8 9)) rfl jin_X0 (by decide) rfl jf_X0_58 (fun _ => rfl) rfl dX0_fillAll_50 ?_
      refine j_iload_n o dX0_fillAll_53 rfl ?_
      refine j_ior o dX0_fillAll_54 ?_
      refine j_callVl (g := 8) (ci := 0) o (c_X0_shareAt l P r9 ((M 8 8) ||| a1) ((M3 8 9) ||| x1) M3 N4 _ h) dX0_fillAll_55 jc_X0_78 jn_X0_shareAt rfl rfl rfl (fun _ => rfl) rfl rfl (fun r12 Mz13 Nz14 h => ?_)
      obtain ⟨rfl, rfl, h⟩ := h
      obtain ⟨hb15, h⟩ := h
      refine j_last o (g := 35) (fun _ _ _ => rfl) hb15 dX0_fillAll_58 ?_
      refine j_aload_n o dX0_fillAll_59 rfl ?_
      refine j_iload o dX0_fillAll_60 rfl ?_
      refine j_aload_n o dX0_fillAll_62 rfl ?_
      refine j_getf o (g := 8) (slot := 0) (ci := 0) (v := .ref (P.1 2)) rfl jin_X0 (by decide) rfl jf_X0_15 (fun _ => rfl) rfl dX0_fillAll_63 ?_
      refine j_getf o (g := 2) (slot := 1) (ci := 3) (v := .int (M3 2 1)) rfl jin_X3 (by decide) rfl jf_X0_61 (fun _ => rfl) rfl dX0_fillAll_66 ?_
      refine j_iload_n o dX0_fillAll_69 rfl ?_
      refine j_iconst o (v := (-1)) dX0_fillAll_70 rfl ?_
      refine j_ixor o dX0_fillAll_71 ?_
      refine j_iand o dX0_fillAll_72 ?_
      refine j_callVv (g := 8) (ci := 0) o (c_X0_fill l P r9 ((M3 2 1) &&& (((M 8 8) ||| a1) ^^^ (-1))) M3 (upN N4 35 r9.toNatClampNeg r12) _ h) dX0_fillAll_73 jc_X0_82 jn_X0_fill rfl rfl rfl (fun _ => rfl) rfl rfl (fun M16 N17 h => ?_)
      refine j_iload_n o dX0_fillAll_76 rfl ?_
      refine j_iload_n o dX0_fillAll_77 rfl ?_
      refine j_isub o dX0_fillAll_78 ?_
      refine j_iload_n o dX0_fillAll_79 rfl ?_
      refine j_iand o dX0_fillAll_80 ?_
      refine j_istore_n o [(3, .int ((x1 - a1) &&& a1)), (5, .int r9), (0, .ref (P.1 8)), (1, .int a1), (2, .int ((M 8 8) ||| a1)), (4, .int x2)] dX0_fillAll_81 (by decide) rfl ?_
      refine j_iinc o (v := x2 + 1) [(4, .int (x2 + 1)), (3, .int ((x1 - a1) &&& a1)), (5, .int r9), (0, .ref (P.1 8)), (1, .int a1), (2, .int ((M 8 8) ||| a1))] dX0_fillAll_82 rfl rfl (by decide) rfl ?_
      refine j_goto o (tgt := 12) dX0_fillAll_85 (by decide) ?_
      exact j_pick [3, 4, 5, 1, 0] rfl h)
  exact j_pick [3, 4, 2, 1, 0] rfl h

abbrev rm_X0_isFilled : Room := { frames := 0, cells := 0, slots := 0, locals := 0 }
def w_X0_isFilled (P : jP) (a1 : Int32) (a2 : Int32) (M : jM) (Q : Int32 → Prop) : Prop :=
  (¬ ((M 8 8) &&& (a1 ^^^ (-1))) = 0 → (
   Q 0
  )) ∧ (((M 8 8) &&& (a1 ^^^ (-1))) = 0 → (
   (¬ (a2 &&& (M 8 8)) = (M 8 9) → (
    Q 0
   )) ∧ ((a2 &&& (M 8 8)) = (M 8 9) → (
    Q 1
   ))
  ))
set_option maxRecDepth 20000 in
theorem c_X0_isFilled (l : Launch) (P : jP) (a1 : Int32) (a2 : Int32) (M : jM) (N : jN) (Q : Int32 → Prop) (h : w_X0_isFilled P a1 a2 M Q) : jC l yX0_isFilled cX0_isFilled 3 (some .boolean) rm_X0_isFilled LC [.ref (P.1 8), .int a1, .int a2] P M N (jqi P (fun r M' N' => M = M' ∧ N = N' ∧ Q r )) := by
  refine jC_of (by decide +kernel) [(0, .ref (P.1 8)), (1, .int a1), (2, .int a2)] (Nat.le_of_ble_eq_true rfl) rfl (fun X o => ?_)
  obtain ⟨E, hE⟩ : ∃ E, E = jE X rm_X0_isFilled (jqi P (fun r M' N' => M = M' ∧ N = N' ∧ Q r )) := ⟨_, rfl⟩
  rw [← hE]
  unfold w_X0_isFilled at h
  refine j_aload_n o dX0_isFilled_0 rfl ?_
  refine j_getf o (g := 8) (slot := 8) (ci := 0) (v := .int (M 8 8)) rfl jin_X0 (by decide) rfl jf_X0_55 (fun _ => rfl) rfl dX0_isFilled_1 ?_
  refine j_iload_n o dX0_isFilled_4 rfl ?_
  refine j_iconst o (v := (-1)) dX0_isFilled_5 rfl ?_
  refine j_ixor o dX0_isFilled_6 ?_
  refine j_iand o dX0_isFilled_7 ?_
  refine j_if_ne o (tgt := 28) dX0_isFilled_8 (by decide) (fun c1 => ?_) (fun c1 => ?_)
  · replace h := h.1 c1
    refine j_iconst o (v := 0) dX0_isFilled_28 rfl ?_
    rw [hE]
    exact j_zret o rfl dX0_isFilled_29 ⟨_, rfl, rfl, rfl, rfl, h⟩
  · replace h := h.2 c1
    refine j_iload_n o dX0_isFilled_11 rfl ?_
    refine j_aload_n o dX0_isFilled_12 rfl ?_
    refine j_getf o (g := 8) (slot := 8) (ci := 0) (v := .int (M 8 8)) rfl jin_X0 (by decide) rfl jf_X0_55 (fun _ => rfl) rfl dX0_isFilled_13 ?_
    refine j_iand o dX0_isFilled_16 ?_
    refine j_aload_n o dX0_isFilled_17 rfl ?_
    refine j_getf o (g := 8) (slot := 9) (ci := 0) (v := .int (M 8 9)) rfl jin_X0 (by decide) rfl jf_X0_58 (fun _ => rfl) rfl dX0_isFilled_18 ?_
    refine j_icmp_ne o (tgt := 28) dX0_isFilled_21 (by decide) (fun c2 => ?_) (fun c2 => ?_)
    · replace h := h.1 c2
      refine j_iconst o (v := 0) dX0_isFilled_28 rfl ?_
      rw [hE]
      exact j_zret o rfl dX0_isFilled_29 ⟨_, rfl, rfl, rfl, rfl, h⟩
    · replace h := h.2 c2
      refine j_iconst o (v := 1) dX0_isFilled_24 rfl ?_
      refine j_goto o (tgt := 29) dX0_isFilled_25 (by decide) ?_
      rw [hE]
      exact j_zret o rfl dX0_isFilled_29 ⟨_, rfl, rfl, rfl, rfl, h⟩

abbrev rm_X0_prepare : Room := { frames := 4, cells := 0, slots := 0, locals := 103 }
def w_X0_prepare (P : jP) (a1 : Nat) (a2 : Nat) (a3 : Int32) (a4 : Int32) (M : jM) (N : jN) (Q : jM → jN → Prop) : Prop :=
  ∀ R34 : Prop, ((
   a1 < 2147483648 ∧
   a1 ≠ 0 ∧
   a2 < 2147483648 ∧
   ∀ M4 : jM, M4 = upM (upM (upM M 8 6 (nI a1)) 8 7 (nI a2)) 8 8 a3 →
   ∀ y5 : Int32, y5 = ((upM (upM M4 8 9 a4) 8 10 0) 2 1) &&& (a3 ^^^ (-1)) →
   ∀ R80 : Int32 → Int32 → jM → jN → Prop, (∀ (x6 : Int32) (x7 : Int32) (M8 : jM) (N9 : jN), (
    w_J6_bitCount_0f7a4 P y5 (fun r10 =>
    (((1 : Int32) <<< (r10 &&& 31)) ≤ x7 → (
     Q M8 N9
    )) ∧ (¬ ((1 : Int32) <<< (r10 &&& 31)) ≤ x7 → (
     w_X0_fillAll P x6 M8 N9 (fun M14 N15 =>
     R80 ((x6 - 1) &&& y5) (x7 + 1) M14 N15)
    )))
   ) → R80 x6 x7 M8 N9) →
   R80 y5 0 (upM (upM M4 8 9 a4) 8 10 0) N
  ) → R34) →
  (¬ (M 8 10) = 0 → (
   R34
  )) ∧ ((M 8 10) = 0 → (
   a1 ≠ 0 ∧
   (jpl P a1 ∧ jpl P ((M 8 6).toNatClampNeg)) ∧
   (¬ a1 = ((M 8 6).toNatClampNeg) → (
    R34
   )) ∧ (a1 = ((M 8 6).toNatClampNeg) → (
    (jpl P a2 ∧ jpl P ((M 8 7).toNatClampNeg)) ∧
    (¬ a2 = ((M 8 7).toNatClampNeg) → (
     R34
    )) ∧ (a2 = ((M 8 7).toNatClampNeg) → (
     w_X0_isFilled P a3 a4 M (fun r22 =>
     (r22 = 0 → (
      R34
     )) ∧ (¬ r22 = 0 → (
      Q M N
     )))
    ))
   ))
  ))
set_option maxRecDepth 20000 in
theorem c_X0_prepare (l : Launch) (P : jP) (a1 : Nat) (a2 : Nat) (a3 : Int32) (a4 : Int32) (M : jM) (N : jN) (Q : jM → jN → Prop) (h : w_X0_prepare P a1 a2 a3 a4 M N Q) : jC l yX0_prepare cX0_prepare 8 none rm_X0_prepare LC [.ref (P.1 8), .ref (P.1 a1), jrf P a2, .int a3, .int a4] P M N (jqv P (fun M' N' => Q M' N')) := by
  refine jC_of (by decide +kernel) [(0, .ref (P.1 8)), (1, .ref (P.1 a1)), (2, jrf P a2), (3, .int a3), (4, .int a4)] (by unfold jrf; split <;> exact Nat.le_of_ble_eq_true rfl) (by unfold jrf; split <;> rfl) (fun X o => ?_)
  obtain ⟨E, hE⟩ : ∃ E, E = jE X rm_X0_prepare (jqv P (fun M' N' => Q M' N')) := ⟨_, rfl⟩
  rw [← hE]
  unfold w_X0_prepare at h
  refine j_aload_n o dX0_prepare_0 rfl ?_
  refine j_getf o (g := 8) (slot := 10) (ci := 0) (v := .int (M 8 10)) rfl jin_X0 (by decide) rfl jf_X0_9 (fun _ => rfl) rfl dX0_prepare_1 ?_
  replace h := h (J X P M N 0 0 E 8 34 [(0, .ref (P.1 8)), (1, .ref (P.1 a1)), (2, jrf P a2), (3, .int a3), (4, .int a4)] []) (by
    intro h
    refine j_aload_n o dX0_prepare_34 rfl ?_
    refine j_aload_n o dX0_prepare_35 rfl ?_
    obtain ⟨hk1, h⟩ := h
    obtain ⟨hn2, h⟩ := h
    refine j_putf o (M1 := upM M 8 6 (nI a1)) (N1 := N) (g := 8) (slot := 6) (ci := 0) (ty := .object "CoalForm$Law") rfl jin_X0 tyX0_ok nmX0 (by decide) rfl rfl jf_X0_44 (by decide +kernel) rfl rfl (Nat.le_of_ble_eq_true rfl) (fun _ => rfl) (fun _ => by rw [← (jrf_k1 (P := P) hk1 hn2)]; rfl) (fun _ hj => upM_ne _ _ _ hj) (fun _ _ => rfl) dX0_prepare_36 ?_
    refine j_aload_n o dX0_prepare_39 rfl ?_
    refine j_qload_n o (g := a2) rfl dX0_prepare_40 ?_
    obtain ⟨hk3, h⟩ := h
    refine j_putf o (M1 := upM (upM M 8 6 (nI a1)) 8 7 (nI a2)) (N1 := N) (g := 8) (slot := 7) (ci := 0) (ty := .object "CoalForm$Law") rfl jin_X0 tyX0_ok nmX0 (by decide) rfl rfl jf_X0_48 (by decide +kernel) (jrf_nar P _ _) (jrf_fit P _ _) (Nat.le_of_ble_eq_true rfl) (fun _ => rfl) (fun _ => by rw [← (jrf_k2 (P := P) hk3)]; rfl) (fun _ hj => upM_ne _ _ _ hj) (fun _ _ => rfl) dX0_prepare_41 ?_
    refine j_aload_n o dX0_prepare_44 rfl ?_
    refine j_iload_n o dX0_prepare_45 rfl ?_
    refine j_putf o (M1 := upM (upM (upM M 8 6 (nI a1)) 8 7 (nI a2)) 8 8 a3) (N1 := N) (g := 8) (slot := 8) (ci := 0) (ty := .int) rfl jin_X0 tyX0_ok nmX0 (by decide) rfl rfl jf_X0_55 (by decide +kernel) rfl rfl (Nat.le_of_ble_eq_true rfl) (fun _ => rfl) (fun _ => rfl) (fun _ hj => upM_ne _ _ _ hj) (fun _ _ => rfl) dX0_prepare_46 ?_
    refine j_nameM (fun M4 hM4 => ?_)
    replace h := h M4 hM4
    refine j_aload_n o dX0_prepare_49 rfl ?_
    refine j_iload o dX0_prepare_50 rfl ?_
    refine j_putf o (M1 := upM M4 8 9 a4) (N1 := N) (g := 8) (slot := 9) (ci := 0) (ty := .int) rfl jin_X0 tyX0_ok nmX0 (by decide) rfl rfl jf_X0_58 (by decide +kernel) rfl rfl (Nat.le_of_ble_eq_true rfl) (fun _ => rfl) (fun _ => rfl) (fun _ hj => upM_ne _ _ _ hj) (fun _ _ => rfl) dX0_prepare_52 ?_
    refine j_aload_n o dX0_prepare_55 rfl ?_
    refine j_iconst o (v := 0) dX0_prepare_56 rfl ?_
    refine j_putf o (M1 := upM (upM M4 8 9 a4) 8 10 0) (N1 := N) (g := 8) (slot := 10) (ci := 0) (ty := .boolean) rfl jin_X0 tyX0_ok nmX0 (by decide) rfl rfl jf_X0_9 (by decide +kernel) rfl rfl (Nat.le_of_ble_eq_true rfl) (fun _ => rfl) (fun _ => rfl) (fun _ hj => upM_ne _ _ _ hj) (fun _ _ => rfl) dX0_prepare_57 ?_
    refine j_aload_n o dX0_prepare_60 rfl ?_
    refine j_getf o (g := 8) (slot := 0) (ci := 0) (v := .ref (P.1 2)) rfl jin_X0 (by decide) rfl jf_X0_15 (fun _ => rfl) rfl dX0_prepare_61 ?_
    refine j_getf o (g := 2) (slot := 1) (ci := 3) (v := .int ((upM (upM M4 8 9 a4) 8 10 0) 2 1)) rfl jin_X3 (by decide) rfl jf_X0_61 (fun _ => rfl) rfl dX0_prepare_64 ?_
    refine j_iload_n o dX0_prepare_67 rfl ?_
    refine j_iconst o (v := (-1)) dX0_prepare_68 rfl ?_
    refine j_ixor o dX0_prepare_69 ?_
    refine j_iand o dX0_prepare_70 ?_
    refine j_topi (fun y5 hy5 => ?_)
    replace h := h y5 hy5
    refine j_istore o [(5, .int y5), (0, .ref (P.1 8)), (1, .ref (P.1 a1)), (2, jrf P a2), (3, .int a3), (4, .int a4)] dX0_prepare_71 (by decide) rfl ?_
    refine j_iload o dX0_prepare_73 rfl ?_
    refine j_istore o [(6, .int y5), (5, .int y5), (0, .ref (P.1 8)), (1, .ref (P.1 a1)), (2, jrf P a2), (3, .int a3), (4, .int a4)] dX0_prepare_75 (by decide) rfl ?_
    refine j_iconst o (v := 0) dX0_prepare_77 rfl ?_
    refine j_istore o [(7, .int 0), (6, .int y5), (5, .int y5), (0, .ref (P.1 8)), (1, .ref (P.1 a1)), (2, jrf P a2), (3, .int a3), (4, .int a4)] dX0_prepare_78 (by decide) rfl ?_
    replace h := h (fun (x6 : Int32) (x7 : Int32) (M8 : jM) (N9 : jN) => J X P M8 N9 0 0 E 8 80 [(0, .ref (P.1 8)), (5, .int y5), (6, .int x6), (7, .int x7)] []) (by
      intro x6 x7 M8 N9 h
      refine j_iload o dX0_prepare_80 rfl ?_
      refine j_iconst o (v := 1) dX0_prepare_82 rfl ?_
      refine j_iload o dX0_prepare_83 rfl ?_
      refine j_callSi o (c_J6_bitCount_0f7a4 l P y5 M8 N9 _ h) dX0_prepare_85 jc_X0_64 jn_J6_bitCount_0f7a4 rfl rfl rfl rfl (fun r10 Mz11 Nz12 h => ?_)
      obtain ⟨rfl, rfl, h⟩ := h
      refine j_ishl o dX0_prepare_88 ?_
      refine j_icmp_ge o (tgt := 113) dX0_prepare_89 (by decide) (fun c13 => ?_) (fun c13 => ?_)
      · replace h := h.1 c13
        rw [hE]
        exact j_vret o dX0_prepare_113 ⟨rfl, rfl, h⟩
      · replace h := h.2 c13
        refine j_aload_n o dX0_prepare_92 rfl ?_
        refine j_iload o dX0_prepare_93 rfl ?_
        refine j_callVv (g := 8) (ci := 0) o (c_X0_fillAll l P x6 M8 N9 _ h) dX0_prepare_95 jc_X0_70 jn_X0_fillAll rfl rfl rfl (fun _ => rfl) rfl rfl (fun M14 N15 h => ?_)
        refine j_iload o dX0_prepare_98 rfl ?_
        refine j_iconst o (v := 1) dX0_prepare_100 rfl ?_
        refine j_isub o dX0_prepare_101 ?_
        refine j_iload o dX0_prepare_102 rfl ?_
        refine j_iand o dX0_prepare_104 ?_
        refine j_istore o [(6, .int ((x6 - 1) &&& y5)), (0, .ref (P.1 8)), (5, .int y5), (7, .int x7)] dX0_prepare_105 (by decide) rfl ?_
        refine j_iinc o (v := x7 + 1) [(7, .int (x7 + 1)), (6, .int ((x6 - 1) &&& y5)), (0, .ref (P.1 8)), (5, .int y5)] dX0_prepare_107 rfl rfl (by decide) rfl ?_
        refine j_goto o (tgt := 80) dX0_prepare_110 (by decide) ?_
        exact j_pick [2, 3, 1, 0] rfl h)
    exact j_pick [3, 2, 1, 0] rfl h)
  refine j_if_ne o (tgt := 34) dX0_prepare_4 (by decide) (fun c16 => ?_) (fun c16 => ?_)
  · replace h := h.1 c16
    exact j_pick [0, 1, 2, 3, 4] rfl h
  · replace h := h.2 c16
    refine j_aload_n o dX0_prepare_7 rfl ?_
    refine j_aload_n o dX0_prepare_8 rfl ?_
    refine j_getf o (g := 8) (slot := 6) (ci := 0) (v := jrf P ((M 8 6).toNatClampNeg)) rfl jin_X0 (by decide) rfl jf_X0_44 (fun _ => rfl) rfl dX0_prepare_9 ?_
    obtain ⟨hn17, h⟩ := h
    obtain ⟨ha18, h⟩ := h
    refine j_acmp_ne o (tgt := 34) ha18 ((jrf_n P hn17).symm) (rfl) dX0_prepare_12 (by decide) (fun c19 => ?_) (fun c19 => ?_)
    · replace h := h.1 c19
      exact j_pick [0, 1, 2, 3, 4] rfl h
    · replace h := h.2 c19
      refine j_qload_n o (g := a2) rfl dX0_prepare_15 ?_
      refine j_aload_n o dX0_prepare_16 rfl ?_
      refine j_getf o (g := 8) (slot := 7) (ci := 0) (v := jrf P ((M 8 7).toNatClampNeg)) rfl jin_X0 (by decide) rfl jf_X0_48 (fun _ => rfl) rfl dX0_prepare_17 ?_
      obtain ⟨ha20, h⟩ := h
      refine j_acmp_ne o (tgt := 34) ha20 (rfl) (rfl) dX0_prepare_20 (by decide) (fun c21 => ?_) (fun c21 => ?_)
      · replace h := h.1 c21
        exact j_pick [0, 1, 2, 3, 4] rfl h
      · replace h := h.2 c21
        refine j_aload_n o dX0_prepare_23 rfl ?_
        refine j_iload_n o dX0_prepare_24 rfl ?_
        refine j_iload o dX0_prepare_25 rfl ?_
        refine j_callVi (g := 8) (ci := 0) o (c_X0_isFilled l P a3 a4 M N _ h) dX0_prepare_27 jc_X0_51 jn_X0_isFilled rfl rfl rfl (fun _ => rfl) rfl rfl (fun r22 Mz23 Nz24 h => ?_)
        obtain ⟨rfl, rfl, h⟩ := h
        refine j_if_eq o (tgt := 34) dX0_prepare_30 (by decide) (fun c25 => ?_) (fun c25 => ?_)
        · replace h := h.1 c25
          exact j_pick [0, 1, 2, 3, 4] rfl h
        · replace h := h.2 c25
          rw [hE]
          exact j_vret o dX0_prepare_33 ⟨rfl, rfl, h⟩

abbrev rm_X0_lowestBest : Room := { frames := 2, cells := 0, slots := 0, locals := 47 }
def w_X0_lowestBest (P : jP) (a1 : Int32) (a2 : Int32) (a3 : Int32) (M : jM) (N : jN) (Q : Int32 → Prop) : Prop :=
  w_X0_isSureAt P a1 M (fun r1 =>
  (¬ r1 = 0 → (
   Q (-1)
  )) ∧ (r1 = 0 → (
   vp_in a1 (P.2.2 2) ∧
   (¬ (M 37 a1.toNatClampNeg) = (-1) → (
    ∀ R23 : Int32 → Prop, (∀ (x7 : Int32), (
     ((M 2 0) ≤ x7 → (
      Q (-1)
     )) ∧ (¬ (M 2 0) ≤ x7 → (
      w_X0_mayAsk P x7 a2 M (fun r9 =>
      ∀ R88 : Prop, ((
       R23 (x7 + 1)
      ) → R88) →
      (r9 = 0 → (
       R88
      )) ∧ (¬ r9 = 0 → (
       (a3 = 0 → (
        w_X0_worstBy P a1 x7 M (fun r14 =>
        vp_in a1 (P.2.2 2) ∧
        (¬ r14 = (M 37 a1.toNatClampNeg) → (
         R88
        )) ∧ (r14 = (M 37 a1.toNatClampNeg) → (
         Q x7
        )))
       )) ∧ (¬ a3 = 0 → (
        w_X0_meanBy P a1 x7 M N (fun r19 =>
        vp_in a1 (P.2.2 2) ∧
        (¬ (lg_cmp r19 (N 36 a1.toNatClampNeg)) = 0 → (
         R88
        )) ∧ ((lg_cmp r19 (N 36 a1.toNatClampNeg)) = 0 → (
         Q x7
        )))
       ))
      )))
     ))
    ) → R23 x7) →
    R23 0
   )) ∧ ((M 37 a1.toNatClampNeg) = (-1) → (
    Q (-1)
   ))
  )))
set_option maxRecDepth 20000 in
theorem c_X0_lowestBest (l : Launch) (P : jP) (a1 : Int32) (a2 : Int32) (a3 : Int32) (M : jM) (N : jN) (Q : Int32 → Prop) (h : w_X0_lowestBest P a1 a2 a3 M N Q) : jC l yX0_lowestBest cX0_lowestBest 5 (some .int) rm_X0_lowestBest LC [.ref (P.1 8), .int a1, .int a2, .int a3] P M N (jqi P (fun r M' N' => M = M' ∧ N = N' ∧ Q r )) := by
  refine jC_of (by decide +kernel) [(0, .ref (P.1 8)), (1, .int a1), (2, .int a2), (3, .int a3)] (Nat.le_of_ble_eq_true rfl) rfl (fun X o => ?_)
  obtain ⟨E, hE⟩ : ∃ E, E = jE X rm_X0_lowestBest (jqi P (fun r M' N' => M = M' ∧ N = N' ∧ Q r )) := ⟨_, rfl⟩
  rw [← hE]
  unfold w_X0_lowestBest at h
  refine j_aload_n o dX0_lowestBest_0 rfl ?_
  refine j_iload_n o dX0_lowestBest_1 rfl ?_
  refine j_callVi (g := 8) (ci := 0) o (c_X0_isSureAt l P a1 M N _ h) dX0_lowestBest_2 jc_X0_98 jn_X0_isSureAt rfl rfl rfl (fun _ => rfl) rfl rfl (fun r1 Mz2 Nz3 h => ?_)
  obtain ⟨rfl, rfl, h⟩ := h
  refine j_if_ne o (tgt := 18) dX0_lowestBest_5 (by decide) (fun c4 => ?_) (fun c4 => ?_)
  · replace h := h.1 c4
    refine j_iconst o (v := (-1)) dX0_lowestBest_18 rfl ?_
    rw [hE]
    exact j_iret o dX0_lowestBest_19 ⟨_, rfl, rfl, rfl, rfl, h⟩
  · replace h := h.2 c4
    refine j_aload_n o dX0_lowestBest_8 rfl ?_
    refine j_getf o (g := 8) (slot := 5) (ci := 0) (v := .ref (P.1 37)) rfl jin_X0 (by decide) rfl jf_X0_40 (fun _ => rfl) rfl dX0_lowestBest_9 ?_
    refine j_iload_n o dX0_lowestBest_12 rfl ?_
    obtain ⟨hb5, h⟩ := h
    refine j_iald o (g := 37) (fun _ => rfl) hb5 dX0_lowestBest_13 ?_
    refine j_iconst o (v := (-1)) dX0_lowestBest_14 rfl ?_
    refine j_icmp_ne o (tgt := 20) dX0_lowestBest_15 (by decide) (fun c6 => ?_) (fun c6 => ?_)
    · replace h := h.1 c6
      refine j_iconst o (v := 0) dX0_lowestBest_20 rfl ?_
      refine j_istore o [(4, .int 0), (0, .ref (P.1 8)), (1, .int a1), (2, .int a2), (3, .int a3)] dX0_lowestBest_21 (by decide) rfl ?_
      replace h := h (fun (x7 : Int32) => J X P M N 0 0 E 5 23 [(0, .ref (P.1 8)), (1, .int a1), (2, .int a2), (3, .int a3), (4, .int x7)] []) (by
        intro x7 h
        refine j_iload o dX0_lowestBest_23 rfl ?_
        refine j_aload_n o dX0_lowestBest_25 rfl ?_
        refine j_getf o (g := 8) (slot := 0) (ci := 0) (v := .ref (P.1 2)) rfl jin_X0 (by decide) rfl jf_X0_15 (fun _ => rfl) rfl dX0_lowestBest_26 ?_
        refine j_getf o (g := 2) (slot := 0) (ci := 3) (v := .int (M 2 0)) rfl jin_X3 (by decide) rfl jf_X0_104 (fun _ => rfl) rfl dX0_lowestBest_29 ?_
        refine j_icmp_ge o (tgt := 94) dX0_lowestBest_32 (by decide) (fun c8 => ?_) (fun c8 => ?_)
        · replace h := h.1 c8
          refine j_iconst o (v := (-1)) dX0_lowestBest_94 rfl ?_
          rw [hE]
          exact j_iret o dX0_lowestBest_95 ⟨_, rfl, rfl, rfl, rfl, h⟩
        · replace h := h.2 c8
          refine j_aload_n o dX0_lowestBest_35 rfl ?_
          refine j_iload o dX0_lowestBest_36 rfl ?_
          refine j_iload_n o dX0_lowestBest_38 rfl ?_
          refine j_callVi (g := 8) (ci := 0) o (c_X0_mayAsk l P x7 a2 M N _ h) dX0_lowestBest_39 jc_X0_107 jn_X0_mayAsk rfl rfl rfl (fun _ => rfl) rfl rfl (fun r9 Mz10 Nz11 h => ?_)
          obtain ⟨rfl, rfl, h⟩ := h
          replace h := h (J X P M N 0 0 E 5 88 [(0, .ref (P.1 8)), (1, .int a1), (2, .int a2), (3, .int a3), (4, .int x7)] []) (by
            intro h
            refine j_iinc o (v := x7 + 1) [(4, .int (x7 + 1)), (0, .ref (P.1 8)), (1, .int a1), (2, .int a2), (3, .int a3)] dX0_lowestBest_88 rfl rfl (by decide) rfl ?_
            refine j_goto o (tgt := 23) dX0_lowestBest_91 (by decide) ?_
            exact j_pick [1, 2, 3, 4, 0] rfl h)
          refine j_if_eq o (tgt := 88) dX0_lowestBest_42 (by decide) (fun c12 => ?_) (fun c12 => ?_)
          · replace h := h.1 c12
            exact j_pick [0, 1, 2, 3, 4] rfl h
          · replace h := h.2 c12
            refine j_iload_n o dX0_lowestBest_45 rfl ?_
            refine j_if_eq o (tgt := 69) dX0_lowestBest_46 (by decide) (fun c13 => ?_) (fun c13 => ?_)
            · replace h := h.1 c13
              refine j_aload_n o dX0_lowestBest_69 rfl ?_
              refine j_iload_n o dX0_lowestBest_70 rfl ?_
              refine j_iload o dX0_lowestBest_71 rfl ?_
              refine j_callVi (g := 8) (ci := 0) o (c_X0_worstBy l P a1 x7 M N _ h) dX0_lowestBest_73 jc_X0_113 jn_X0_worstBy rfl rfl rfl (fun _ => rfl) rfl rfl (fun r14 Mz15 Nz16 h => ?_)
              obtain ⟨rfl, rfl, h⟩ := h
              refine j_aload_n o dX0_lowestBest_76 rfl ?_
              refine j_getf o (g := 8) (slot := 5) (ci := 0) (v := .ref (P.1 37)) rfl jin_X0 (by decide) rfl jf_X0_40 (fun _ => rfl) rfl dX0_lowestBest_77 ?_
              refine j_iload_n o dX0_lowestBest_80 rfl ?_
              obtain ⟨hb17, h⟩ := h
              refine j_iald o (g := 37) (fun _ => rfl) hb17 dX0_lowestBest_81 ?_
              refine j_icmp_ne o (tgt := 88) dX0_lowestBest_82 (by decide) (fun c18 => ?_) (fun c18 => ?_)
              · replace h := h.1 c18
                exact j_pick [0, 1, 2, 3, 4] rfl h
              · replace h := h.2 c18
                refine j_iload o dX0_lowestBest_85 rfl ?_
                rw [hE]
                exact j_iret o dX0_lowestBest_87 ⟨_, rfl, rfl, rfl, rfl, h⟩
            · replace h := h.2 c13
              refine j_aload_n o dX0_lowestBest_49 rfl ?_
              refine j_iload_n o dX0_lowestBest_50 rfl ?_
              refine j_iload o dX0_lowestBest_51 rfl ?_
              refine j_callVl (g := 8) (ci := 0) o (c_X0_meanBy l P a1 x7 M N _ h) dX0_lowestBest_53 jc_X0_110 jn_X0_meanBy rfl rfl rfl (fun _ => rfl) rfl rfl (fun r19 Mz20 Nz21 h => ?_)
              obtain ⟨rfl, rfl, h⟩ := h
              refine j_aload_n o dX0_lowestBest_56 rfl ?_
              refine j_getf o (g := 8) (slot := 4) (ci := 0) (v := .ref (P.1 36)) rfl jin_X0 (by decide) rfl jf_X0_37 (fun _ => rfl) rfl dX0_lowestBest_57 ?_
              refine j_iload_n o dX0_lowestBest_60 rfl ?_
              obtain ⟨hb22, h⟩ := h
              refine j_lald o (g := 36) (fun _ => rfl) hb22 dX0_lowestBest_61 ?_
              refine j_lcmp o dX0_lowestBest_62 ?_
              refine j_if_ne o (tgt := 88) dX0_lowestBest_63 (by decide) (fun c23 => ?_) (fun c23 => ?_)
              · replace h := h.1 c23
                exact j_pick [0, 1, 2, 3, 4] rfl h
              · replace h := h.2 c23
                refine j_goto o (tgt := 85) dX0_lowestBest_66 (by decide) ?_
                refine j_iload o dX0_lowestBest_85 rfl ?_
                rw [hE]
                exact j_iret o dX0_lowestBest_87 ⟨_, rfl, rfl, rfl, rfl, h⟩)
      exact j_pick [1, 2, 3, 4, 0] rfl h
    · replace h := h.2 c6
      refine j_iconst o (v := (-1)) dX0_lowestBest_18 rfl ?_
      rw [hE]
      exact j_iret o dX0_lowestBest_19 ⟨_, rfl, rfl, rfl, rfl, h⟩

abbrev rm_X1_joined : Room := { frames := 2, cells := 0, slots := 0, locals := 40 }
def w_X1_joined (P : jP) (a1 : Nat) (a2 : Int32) (a3 : Int32) (M : jM) (Q : Int32 → jM → Prop) : Prop :=
  w_X11_lowest P ((M 2 1) &&& (a3 ^^^ (-1))) (fun r1 =>
  vp_in r1 (P.2.2 0) ∧
  cLw P a1 = true ∧
  jin P (a1 + 4) (a2 + (M 15 r1.toNatClampNeg)) ∧
  ∀ y7 : Int32, y7 = M (a1 + 4) (a2 + (M 15 r1.toNatClampNeg)).toNatClampNeg →
  cLw P a1 = true ∧
  jin P (a1 + 4) (a2 + (2 * (M 15 r1.toNatClampNeg))) ∧
  ∀ y10 : Int32, y10 = M (a1 + 4) (a2 + (2 * (M 15 r1.toNatClampNeg))).toNatClampNeg →
  ∀ R65 : Prop, ((
   ∀ R92 : Prop, ((
    Q (M 5 7) (upM M 5 7 ((M 5 7) + 1))
   ) → R92) →
   (((y7 * (M 5 1)) + y10) < 0 → (
    R92
   )) ∧ (¬ ((y7 * (M 5 1)) + y10) < 0 → (
    (((y7 * (M 5 1)) + y10) < (Int32.ofNat (P.2.2 3)) → (
     vp_in ((y7 * (M 5 1)) + y10) (P.2.2 3) ∧
     ∀ R147 : jM → Prop, (∀ (M14 : jM), (
      vp_in ((y7 * (M 5 1)) + y10) (P.2.2 3) ∧
      Q (M14 24 ((y7 * (M 5 1)) + y10).toNatClampNeg) M14
     ) → R147 M14) →
     ((M 23 ((y7 * (M 5 1)) + y10).toNatClampNeg) = (M 5 6) → (
      R147 M
     )) ∧ (¬ (M 23 ((y7 * (M 5 1)) + y10).toNatClampNeg) = (M 5 6) → (
      vp_in ((y7 * (M 5 1)) + y10) (P.2.2 3) ∧
      ∀ M18 : jM, M18 = upM M 23 ((y7 * (M 5 1)) + y10).toNatClampNeg (M 5 6) →
      vp_in ((y7 * (M 5 1)) + y10) (P.2.2 3) ∧
      ∀ M20 : jM, M20 = upM (upM M18 5 7 ((M18 5 7) + 1)) 24 ((y7 * (M 5 1)) + y10).toNatClampNeg (M18 5 7) →
      R147 M20
     ))
    )) ∧ (¬ ((y7 * (M 5 1)) + y10) < (Int32.ofNat (P.2.2 3)) → (
     R92
    ))
   ))
  ) → R65) →
  (¬ y7 = y10 → (
   R65
  )) ∧ (y7 = y10 → (
   (7 ≤ y7 → (
    R65
   )) ∧ (¬ 7 ≤ y7 → (
    Q y7 M
   ))
  )))
set_option maxRecDepth 20000 in
theorem c_X1_joined (l : Launch) (P : jP) (a1 : Nat) (a2 : Int32) (a3 : Int32) (M : jM) (N : jN) (Q : Int32 → jM → Prop) (h : w_X1_joined P a1 a2 a3 M Q) : jC l yX1_joined cX1_joined 8 (some .int) rm_X1_joined LC [.ref (P.1 5), .ref (P.1 a1), .int a2, .int a3] P M N (jqi P (fun r M' N' => N = N' ∧ Q r M' )) := by
  refine jC_of (by decide +kernel) [(0, .ref (P.1 5)), (1, .ref (P.1 a1)), (2, .int a2), (3, .int a3)] (Nat.le_of_ble_eq_true rfl) rfl (fun X o => ?_)
  obtain ⟨E, hE⟩ : ∃ E, E = jE X rm_X1_joined (jqi P (fun r M' N' => N = N' ∧ Q r M' )) := ⟨_, rfl⟩
  rw [← hE]
  unfold w_X1_joined at h
  refine j_aload_n o dX1_joined_0 rfl ?_
  refine j_getf o (g := 5) (slot := 0) (ci := 1) (v := .ref (P.1 2)) rfl jin_X1 (by decide) rfl jf_X1_9 (fun _ => rfl) rfl dX1_joined_1 ?_
  refine j_getf o (g := 2) (slot := 4) (ci := 3) (v := .ref (P.1 15)) rfl jin_X3 (by decide) rfl jf_X1_76 (fun _ => rfl) rfl dX1_joined_4 ?_
  refine j_aload_n o dX1_joined_7 rfl ?_
  refine j_getf o (g := 5) (slot := 0) (ci := 1) (v := .ref (P.1 2)) rfl jin_X1 (by decide) rfl jf_X1_9 (fun _ => rfl) rfl dX1_joined_8 ?_
  refine j_getf o (g := 2) (slot := 1) (ci := 3) (v := .int (M 2 1)) rfl jin_X3 (by decide) rfl jf_X1_48 (fun _ => rfl) rfl dX1_joined_11 ?_
  refine j_iload_n o dX1_joined_14 rfl ?_
  refine j_iconst o (v := (-1)) dX1_joined_15 rfl ?_
  refine j_ixor o dX1_joined_16 ?_
  refine j_iand o dX1_joined_17 ?_
  refine j_callSNi o (c_X11_lowest l P ((M 2 1) &&& (a3 ^^^ (-1))) M N _ h) dX1_joined_18 jc_X1_79 jq_X1_79 jn_X11_lowest rfl rfl rfl rfl (fun r1 Mz2 Nz3 h => ?_)
  obtain ⟨rfl, rfl, h⟩ := h
  obtain ⟨hb4, h⟩ := h
  refine j_iald o (g := 15) (fun _ => rfl) hb4 dX1_joined_21 ?_
  refine j_istore o [(4, .int (M 15 r1.toNatClampNeg)), (0, .ref (P.1 5)), (1, .ref (P.1 a1)), (2, .int a2), (3, .int a3)] dX1_joined_22 (by decide) rfl ?_
  refine j_aload_n o dX1_joined_24 rfl ?_
  obtain ⟨hb5, h⟩ := h
  refine j_getf o (g := a1) (slot := 4) (ci := 4) (v := .ref (P.1 (a1 + 4))) rfl jin_X4 (by decide) rfl jf_X1_66 (fun tA => LC_lw hb5 tA _ _) rfl dX1_joined_25 ?_
  refine j_iload_n o dX1_joined_28 rfl ?_
  refine j_iload o dX1_joined_29 rfl ?_
  refine j_iadd o dX1_joined_31 ?_
  obtain ⟨hb6, h⟩ := h
  obtain ⟨nnhb6, hchb6, hihb6⟩ := hb6
  refine j_iald o (g := a1 + 4) (fun tA => LC_ia hchb6 tA _ _) hihb6 dX1_joined_32 ?_
  refine j_topi (fun y7 hy7 => ?_)
  replace h := h y7 hy7
  refine j_istore o [(5, .int y7), (4, .int (M 15 r1.toNatClampNeg)), (0, .ref (P.1 5)), (1, .ref (P.1 a1)), (2, .int a2), (3, .int a3)] dX1_joined_33 (by decide) rfl ?_
  refine j_aload_n o dX1_joined_35 rfl ?_
  obtain ⟨hb8, h⟩ := h
  refine j_getf o (g := a1) (slot := 4) (ci := 4) (v := .ref (P.1 (a1 + 4))) rfl jin_X4 (by decide) rfl jf_X1_66 (fun tA => LC_lw hb8 tA _ _) rfl dX1_joined_36 ?_
  refine j_iload_n o dX1_joined_39 rfl ?_
  refine j_iconst o (v := 2) dX1_joined_40 rfl ?_
  refine j_iload o dX1_joined_41 rfl ?_
  refine j_imul o dX1_joined_43 ?_
  refine j_iadd o dX1_joined_44 ?_
  obtain ⟨hb9, h⟩ := h
  obtain ⟨nnhb9, hchb9, hihb9⟩ := hb9
  refine j_iald o (g := a1 + 4) (fun tA => LC_ia hchb9 tA _ _) hihb9 dX1_joined_45 ?_
  refine j_topi (fun y10 hy10 => ?_)
  replace h := h y10 hy10
  refine j_istore o [(6, .int y10), (5, .int y7), (4, .int (M 15 r1.toNatClampNeg)), (0, .ref (P.1 5)), (1, .ref (P.1 a1)), (2, .int a2), (3, .int a3)] dX1_joined_46 (by decide) rfl ?_
  refine j_iload o dX1_joined_48 rfl ?_
  refine j_iload o dX1_joined_50 rfl ?_
  replace h := h (J X P M N 0 0 E 8 65 [(0, .ref (P.1 5)), (5, .int y7), (6, .int y10)] []) (by
    intro h
    refine j_iload o dX1_joined_65 rfl ?_
    refine j_aload_n o dX1_joined_67 rfl ?_
    refine j_getf o (g := 5) (slot := 1) (ci := 1) (v := .int (M 5 1)) rfl jin_X1 (by decide) rfl jf_X1_29 (fun _ => rfl) rfl dX1_joined_68 ?_
    refine j_imul o dX1_joined_71 ?_
    refine j_iload o dX1_joined_72 rfl ?_
    refine j_iadd o dX1_joined_74 ?_
    refine j_istore o [(7, .int ((y7 * (M 5 1)) + y10)), (0, .ref (P.1 5)), (5, .int y7), (6, .int y10)] dX1_joined_75 (by decide) rfl ?_
    refine j_iload o dX1_joined_77 rfl ?_
    replace h := h (J X P M N 0 0 E 8 92 [(0, .ref (P.1 5))] []) (by
      intro h
      refine j_aload_n o dX1_joined_92 rfl ?_
      refine j_dup o dX1_joined_93 rfl ?_
      refine j_getf o (g := 5) (slot := 7) (ci := 1) (v := .int (M 5 7)) rfl jin_X1 (by decide) rfl jf_X1_54 (fun _ => rfl) rfl dX1_joined_94 ?_
      refine j_dup_x1 o dX1_joined_97 rfl rfl ?_
      refine j_iconst o (v := 1) dX1_joined_98 rfl ?_
      refine j_iadd o dX1_joined_99 ?_
      refine j_putf o (M1 := upM M 5 7 ((M 5 7) + 1)) (N1 := N) (g := 5) (slot := 7) (ci := 1) (ty := .int) rfl jin_X1 tyX1_ok nmX1 (by decide) rfl rfl jf_X1_54 (by decide +kernel) rfl rfl (Nat.le_of_ble_eq_true rfl) (fun _ => rfl) (fun _ => rfl) (fun _ hj => upM_ne _ _ _ hj) (fun _ _ => rfl) dX1_joined_100 ?_
      rw [hE]
      exact j_iret o dX1_joined_103 ⟨_, rfl, rfl, rfl, h⟩)
    refine j_if_lt o (tgt := 92) dX1_joined_79 (by decide) (fun c11 => ?_) (fun c11 => ?_)
    · replace h := h.1 c11
      exact j_pick [1] rfl h
    · replace h := h.2 c11
      refine j_iload o dX1_joined_82 rfl ?_
      refine j_aload_n o dX1_joined_84 rfl ?_
      refine j_getf o (g := 5) (slot := 2) (ci := 1) (v := .ref (P.1 23)) rfl jin_X1 (by decide) rfl jf_X1_32 (fun _ => rfl) rfl dX1_joined_85 ?_
      refine j_alen o (g := 23) (t0 := 0) (fun _ => rfl) (fun _ => rfl) dX1_joined_88 ?_
      refine j_icmp_lt o (tgt := 104) dX1_joined_89 (by decide) (fun c12 => ?_) (fun c12 => ?_)
      · replace h := h.1 c12
        refine j_aload_n o dX1_joined_104 rfl ?_
        refine j_getf o (g := 5) (slot := 2) (ci := 1) (v := .ref (P.1 23)) rfl jin_X1 (by decide) rfl jf_X1_32 (fun _ => rfl) rfl dX1_joined_105 ?_
        refine j_iload o dX1_joined_108 rfl ?_
        obtain ⟨hb13, h⟩ := h
        refine j_iald o (g := 23) (fun _ => rfl) hb13 dX1_joined_110 ?_
        refine j_aload_n o dX1_joined_111 rfl ?_
        refine j_getf o (g := 5) (slot := 6) (ci := 1) (v := .int (M 5 6)) rfl jin_X1 (by decide) rfl jf_X1_51 (fun _ => rfl) rfl dX1_joined_112 ?_
        replace h := h (fun (M14 : jM) => J X P M14 N 0 0 E 8 147 [(0, .ref (P.1 5)), (7, .int ((y7 * (M 5 1)) + y10))] []) (by
          intro M14 h
          refine j_aload_n o dX1_joined_147 rfl ?_
          refine j_getf o (g := 5) (slot := 3) (ci := 1) (v := .ref (P.1 24)) rfl jin_X1 (by decide) rfl jf_X1_36 (fun _ => rfl) rfl dX1_joined_148 ?_
          refine j_iload o dX1_joined_151 rfl ?_
          obtain ⟨hb15, h⟩ := h
          refine j_iald o (g := 24) (fun _ => rfl) hb15 dX1_joined_153 ?_
          rw [hE]
          exact j_iret o dX1_joined_154 ⟨_, rfl, rfl, rfl, h⟩)
        refine j_icmp_eq o (tgt := 147) dX1_joined_115 (by decide) (fun c16 => ?_) (fun c16 => ?_)
        · replace h := h.1 c16
          exact j_pick [1, 0] rfl h
        · replace h := h.2 c16
          refine j_aload_n o dX1_joined_118 rfl ?_
          refine j_getf o (g := 5) (slot := 2) (ci := 1) (v := .ref (P.1 23)) rfl jin_X1 (by decide) rfl jf_X1_32 (fun _ => rfl) rfl dX1_joined_119 ?_
          refine j_iload o dX1_joined_122 rfl ?_
          refine j_aload_n o dX1_joined_124 rfl ?_
          refine j_getf o (g := 5) (slot := 6) (ci := 1) (v := .int (M 5 6)) rfl jin_X1 (by decide) rfl jf_X1_51 (fun _ => rfl) rfl dX1_joined_125 ?_
          obtain ⟨hb17, h⟩ := h
          refine j_iast o (g := 23) (fun _ _ _ => rfl) hb17 dX1_joined_128 ?_
          refine j_nameM (fun M18 hM18 => ?_)
          replace h := h M18 hM18
          refine j_aload_n o dX1_joined_129 rfl ?_
          refine j_getf o (g := 5) (slot := 3) (ci := 1) (v := .ref (P.1 24)) rfl jin_X1 (by decide) rfl jf_X1_36 (fun _ => rfl) rfl dX1_joined_130 ?_
          refine j_iload o dX1_joined_133 rfl ?_
          refine j_aload_n o dX1_joined_135 rfl ?_
          refine j_dup o dX1_joined_136 rfl ?_
          refine j_getf o (g := 5) (slot := 7) (ci := 1) (v := .int (M18 5 7)) rfl jin_X1 (by decide) rfl jf_X1_54 (fun _ => rfl) rfl dX1_joined_137 ?_
          refine j_dup_x1 o dX1_joined_140 rfl rfl ?_
          refine j_iconst o (v := 1) dX1_joined_141 rfl ?_
          refine j_iadd o dX1_joined_142 ?_
          refine j_putf o (M1 := upM M18 5 7 ((M18 5 7) + 1)) (N1 := N) (g := 5) (slot := 7) (ci := 1) (ty := .int) rfl jin_X1 tyX1_ok nmX1 (by decide) rfl rfl jf_X1_54 (by decide +kernel) rfl rfl (Nat.le_of_ble_eq_true rfl) (fun _ => rfl) (fun _ => rfl) (fun _ hj => upM_ne _ _ _ hj) (fun _ _ => rfl) dX1_joined_143 ?_
          obtain ⟨hb19, h⟩ := h
          refine j_iast o (g := 24) (fun _ _ _ => rfl) hb19 dX1_joined_146 ?_
          refine j_nameM (fun M20 hM20 => ?_)
          replace h := h M20 hM20
          exact j_pick [1, 0] rfl h
      · replace h := h.2 c12
        exact j_pick [1] rfl h)
  refine j_icmp_ne o (tgt := 65) dX1_joined_52 (by decide) (fun c21 => ?_) (fun c21 => ?_)
  · replace h := h.1 c21
    exact j_pick [3, 1, 0] rfl h
  · replace h := h.2 c21
    refine j_iload o dX1_joined_55 rfl ?_
    refine j_bipush o (v := 7) dX1_joined_57 rfl ?_
    refine j_icmp_ge o (tgt := 65) dX1_joined_59 (by decide) (fun c22 => ?_) (fun c22 => ?_)
    · replace h := h.1 c22
      exact j_pick [3, 1, 0] rfl h
    · replace h := h.2 c22
      refine j_iload o dX1_joined_62 rfl ?_
      rw [hE]
      exact j_iret o dX1_joined_64 ⟨_, rfl, rfl, rfl, h⟩

abbrev rm_X1_fillWays : Room := { frames := 3, cells := 0, slots := 0, locals := 67 }
def w_X1_fillWays (P : jP) (a1 : Nat) (M : jM) (Q : jM → Prop) : Prop :=
  ∀ R8 : Int32 → jM → Prop, (∀ (x1 : Int32) (M2 : jM), (
   (x1 < 0 → (
    Q M2
   )) ∧ (¬ x1 < 0 → (
    ∀ R33 : Int32 → Int32 → jM → Prop, (∀ (x4 : Int32) (x5 : Int32) (M6 : jM), (
     w_J6_bitCount_0f7a4 P x1 (fun r7 =>
     (((1 : Int32) <<< (r7 &&& 31)) ≤ x5 → (
      R8 (x1 + (-1)) M6
     )) ∧ (¬ ((1 : Int32) <<< (r7 &&& 31)) ≤ x5 → (
      w_X3_place P x1 x4 M6 (fun r11 =>
      cLw P a1 = true ∧
      ∀ R91 : Nat → Int32 → jM → Prop, (∀ (x15 : Nat) (x16 : Int32) (M17 : jM), (
       jin P x15 r11 ∧
       R33 ((x4 - x1) &&& x1) (x5 + 1) (upM M17 x15 r11.toNatClampNeg x16)
      ) → R91 x15 x16 M17) →
      (¬ x1 = (M6 2 1) → (
       w_X1_joined P a1 r11 x1 M6 (fun r20 M21 =>
       R91 (a1 + 4) r20 M21)
      )) ∧ (x1 = (M6 2 1) → (
       cLw P a1 = true ∧
       jin P (a1 + 3) x4 ∧
       R91 (a1 + 4) ((M6 (a1 + 3) x4.toNatClampNeg) + 1) M6
      )))
     )))
    ) → R33 x4 x5 M6) →
    R33 0 0 (upM (upM M2 5 6 ((M2 5 6) + 1)) 5 7 7)
   ))
  ) → R8 x1 M2) →
  R8 (M 2 1) M
set_option maxRecDepth 20000 in
theorem c_X1_fillWays (l : Launch) (P : jP) (a1 : Nat) (M : jM) (N : jN) (Q : jM → Prop) (h : w_X1_fillWays P a1 M Q) : jC l yX1_fillWays cX1_fillWays 6 none rm_X1_fillWays LC [.ref (P.1 5), .ref (P.1 a1)] P M N (jqv P (fun M' N' => N = N' ∧ Q M' )) := by
  refine jC_of (by decide +kernel) [(0, .ref (P.1 5)), (1, .ref (P.1 a1))] (Nat.le_of_ble_eq_true rfl) rfl (fun X o => ?_)
  obtain ⟨E, hE⟩ : ∃ E, E = jE X rm_X1_fillWays (jqv P (fun M' N' => N = N' ∧ Q M' )) := ⟨_, rfl⟩
  rw [← hE]
  unfold w_X1_fillWays at h
  refine j_aload_n o dX1_fillWays_0 rfl ?_
  refine j_getf o (g := 5) (slot := 0) (ci := 1) (v := .ref (P.1 2)) rfl jin_X1 (by decide) rfl jf_X1_9 (fun _ => rfl) rfl dX1_fillWays_1 ?_
  refine j_getf o (g := 2) (slot := 1) (ci := 3) (v := .int (M 2 1)) rfl jin_X3 (by decide) rfl jf_X1_48 (fun _ => rfl) rfl dX1_fillWays_4 ?_
  refine j_istore_n o [(2, .int (M 2 1)), (0, .ref (P.1 5)), (1, .ref (P.1 a1))] dX1_fillWays_7 (by decide) rfl ?_
  replace h := h (fun (x1 : Int32) (M2 : jM) => J X P M2 N 0 0 E 6 8 [(0, .ref (P.1 5)), (1, .ref (P.1 a1)), (2, .int x1)] []) (by
    intro x1 M2 h
    refine j_iload_n o dX1_fillWays_8 rfl ?_
    refine j_if_lt o (tgt := 110) dX1_fillWays_9 (by decide) (fun c3 => ?_) (fun c3 => ?_)
    · replace h := h.1 c3
      rw [hE]
      exact j_vret o dX1_fillWays_110 ⟨rfl, rfl, rfl, h⟩
    · replace h := h.2 c3
      refine j_aload_n o dX1_fillWays_12 rfl ?_
      refine j_dup o dX1_fillWays_13 rfl ?_
      refine j_getf o (g := 5) (slot := 6) (ci := 1) (v := .int (M2 5 6)) rfl jin_X1 (by decide) rfl jf_X1_51 (fun _ => rfl) rfl dX1_fillWays_14 ?_
      refine j_iconst o (v := 1) dX1_fillWays_17 rfl ?_
      refine j_iadd o dX1_fillWays_18 ?_
      refine j_putf o (M1 := upM M2 5 6 ((M2 5 6) + 1)) (N1 := N) (g := 5) (slot := 6) (ci := 1) (ty := .int) rfl jin_X1 tyX1_ok nmX1 (by decide) rfl rfl jf_X1_51 (by decide +kernel) rfl rfl (Nat.le_of_ble_eq_true rfl) (fun _ => rfl) (fun _ => rfl) (fun _ hj => upM_ne _ _ _ hj) (fun _ _ => rfl) dX1_fillWays_19 ?_
      refine j_aload_n o dX1_fillWays_22 rfl ?_
      refine j_bipush o (v := 7) dX1_fillWays_23 rfl ?_
      refine j_putf o (M1 := upM (upM M2 5 6 ((M2 5 6) + 1)) 5 7 7) (N1 := N) (g := 5) (slot := 7) (ci := 1) (ty := .int) rfl jin_X1 tyX1_ok nmX1 (by decide) rfl rfl jf_X1_54 (by decide +kernel) rfl rfl (Nat.le_of_ble_eq_true rfl) (fun _ => rfl) (fun _ => rfl) (fun _ hj => upM_ne _ _ _ hj) (fun _ _ => rfl) dX1_fillWays_25 ?_
      refine j_iconst o (v := 0) dX1_fillWays_28 rfl ?_
      refine j_istore_n o [(3, .int 0), (0, .ref (P.1 5)), (1, .ref (P.1 a1)), (2, .int x1)] dX1_fillWays_29 (by decide) rfl ?_
      refine j_iconst o (v := 0) dX1_fillWays_30 rfl ?_
      refine j_istore o [(4, .int 0), (3, .int 0), (0, .ref (P.1 5)), (1, .ref (P.1 a1)), (2, .int x1)] dX1_fillWays_31 (by decide) rfl ?_
      replace h := h (fun (x4 : Int32) (x5 : Int32) (M6 : jM) => J X P M6 N 0 0 E 6 33 [(0, .ref (P.1 5)), (1, .ref (P.1 a1)), (2, .int x1), (3, .int x4), (4, .int x5)] []) (by
        intro x4 x5 M6 h
        refine j_iload o dX1_fillWays_33 rfl ?_
        refine j_iconst o (v := 1) dX1_fillWays_35 rfl ?_
        refine j_iload_n o dX1_fillWays_36 rfl ?_
        refine j_callSi o (c_J6_bitCount_0f7a4 l P x1 M6 N _ h) dX1_fillWays_37 jc_X1_57 jn_J6_bitCount_0f7a4 rfl rfl rfl rfl (fun r7 Mz8 Nz9 h => ?_)
        obtain ⟨rfl, rfl, h⟩ := h
        refine j_ishl o dX1_fillWays_40 ?_
        refine j_icmp_ge o (tgt := 104) dX1_fillWays_41 (by decide) (fun c10 => ?_) (fun c10 => ?_)
        · replace h := h.1 c10
          refine j_iinc o (v := x1 + (-1)) [(2, .int (x1 + (-1))), (0, .ref (P.1 5)), (1, .ref (P.1 a1)), (3, .int x4), (4, .int x5)] dX1_fillWays_104 rfl rfl (by decide) rfl ?_
          refine j_goto o (tgt := 8) dX1_fillWays_107 (by decide) ?_
          exact j_pick [1, 2, 0] rfl h
        · replace h := h.2 c10
          refine j_aload_n o dX1_fillWays_44 rfl ?_
          refine j_getf o (g := 5) (slot := 0) (ci := 1) (v := .ref (P.1 2)) rfl jin_X1 (by decide) rfl jf_X1_9 (fun _ => rfl) rfl dX1_fillWays_45 ?_
          refine j_iload_n o dX1_fillWays_48 rfl ?_
          refine j_iload_n o dX1_fillWays_49 rfl ?_
          refine j_callVi (g := 2) (ci := 3) o (c_X3_place l P x1 x4 M6 N _ h) dX1_fillWays_50 jc_X1_63 jn_X3_place rfl rfl rfl (fun _ => rfl) rfl rfl (fun r11 Mz12 Nz13 h => ?_)
          obtain ⟨rfl, rfl, h⟩ := h
          refine j_istore o [(5, .int r11), (0, .ref (P.1 5)), (1, .ref (P.1 a1)), (2, .int x1), (3, .int x4), (4, .int x5)] dX1_fillWays_53 (by decide) rfl ?_
          refine j_aload_n o dX1_fillWays_55 rfl ?_
          obtain ⟨hb14, h⟩ := h
          refine j_getf o (g := a1) (slot := 4) (ci := 4) (v := .ref (P.1 (a1 + 4))) rfl jin_X4 (by decide) rfl jf_X1_66 (fun tA => LC_lw hb14 tA _ _) rfl dX1_fillWays_56 ?_
          refine j_iload o dX1_fillWays_59 rfl ?_
          refine j_iload_n o dX1_fillWays_61 rfl ?_
          refine j_aload_n o dX1_fillWays_62 rfl ?_
          refine j_getf o (g := 5) (slot := 0) (ci := 1) (v := .ref (P.1 2)) rfl jin_X1 (by decide) rfl jf_X1_9 (fun _ => rfl) rfl dX1_fillWays_63 ?_
          refine j_getf o (g := 2) (slot := 1) (ci := 3) (v := .int (M6 2 1)) rfl jin_X3 (by decide) rfl jf_X1_48 (fun _ => rfl) rfl dX1_fillWays_66 ?_
          replace h := h (fun (x15 : Nat) (x16 : Int32) (M17 : jM) => J X P M17 N 0 0 E 6 91 [(0, .ref (P.1 5)), (1, .ref (P.1 a1)), (2, .int x1), (3, .int x4), (4, .int x5)] [.int x16, .int r11, .ref (P.1 x15)]) (by
            intro x15 x16 M17 h
            obtain ⟨hb18, h⟩ := h
            obtain ⟨nnhb18, hchb18, hihb18⟩ := hb18
            refine j_iast o (g := x15) (LC_ia hchb18) hihb18 dX1_fillWays_91 ?_
            refine j_iload_n o dX1_fillWays_92 rfl ?_
            refine j_iload_n o dX1_fillWays_93 rfl ?_
            refine j_isub o dX1_fillWays_94 ?_
            refine j_iload_n o dX1_fillWays_95 rfl ?_
            refine j_iand o dX1_fillWays_96 ?_
            refine j_istore_n o [(3, .int ((x4 - x1) &&& x1)), (0, .ref (P.1 5)), (1, .ref (P.1 a1)), (2, .int x1), (4, .int x5)] dX1_fillWays_97 (by decide) rfl ?_
            refine j_iinc o (v := x5 + 1) [(4, .int (x5 + 1)), (3, .int ((x4 - x1) &&& x1)), (0, .ref (P.1 5)), (1, .ref (P.1 a1)), (2, .int x1)] dX1_fillWays_98 rfl rfl (by decide) rfl ?_
            refine j_goto o (tgt := 33) dX1_fillWays_101 (by decide) ?_
            exact j_pick [2, 3, 4, 1, 0] rfl h)
          refine j_icmp_ne o (tgt := 83) dX1_fillWays_69 (by decide) (fun c19 => ?_) (fun c19 => ?_)
          · replace h := h.1 c19
            refine j_aload_n o dX1_fillWays_83 rfl ?_
            refine j_aload_n o dX1_fillWays_84 rfl ?_
            refine j_iload o dX1_fillWays_85 rfl ?_
            refine j_iload_n o dX1_fillWays_87 rfl ?_
            refine j_callVi (g := 5) (ci := 1) o (c_X1_joined l P a1 r11 x1 M6 N _ h) dX1_fillWays_88 jc_X1_72 jn_X1_joined rfl rfl rfl (fun _ => rfl) rfl rfl (fun r20 M21 Nz22 h => ?_)
            obtain ⟨rfl, h⟩ := h
            exact j_pick [1, 2, 3, 4, 5] rfl h
          · replace h := h.2 c19
            refine j_aload_n o dX1_fillWays_72 rfl ?_
            obtain ⟨hb23, h⟩ := h
            refine j_getf o (g := a1) (slot := 3) (ci := 4) (v := .ref (P.1 (a1 + 3))) rfl jin_X4 (by decide) rfl jf_X1_69 (fun tA => LC_lw hb23 tA _ _) rfl dX1_fillWays_73 ?_
            refine j_iload_n o dX1_fillWays_76 rfl ?_
            obtain ⟨hb24, h⟩ := h
            obtain ⟨nnhb24, hchb24, hihb24⟩ := hb24
            refine j_iald o (g := a1 + 3) (fun tA => LC_ia hchb24 tA _ _) hihb24 dX1_fillWays_77 ?_
            refine j_iconst o (v := 1) dX1_fillWays_78 rfl ?_
            refine j_iadd o dX1_fillWays_79 ?_
            refine j_goto o (tgt := 91) dX1_fillWays_80 (by decide) ?_
            exact j_pick [1, 2, 3, 4, 5] rfl h)
      exact j_pick [2, 3, 4, 1, 0] rfl h)
  exact j_pick [1, 2, 0] rfl h

abbrev rm_X1_mattersAt : Room := { frames := 0, cells := 0, slots := 0, locals := 0 }
def w_X1_mattersAt (P : jP) (a1 : Nat) (a2 : Int32) (a3 : Int32) (M : jM) (Q : Int32 → Prop) : Prop :=
  vp_in a3 (P.2.2 0) ∧
  cLw P a1 = true ∧
  jin P (a1 + 4) (a2 + (M 15 a3.toNatClampNeg)) ∧
  cLw P a1 = true ∧
  jin P (a1 + 4) (a2 + (2 * (M 15 a3.toNatClampNeg))) ∧
  ((M (a1 + 4) (a2 + (M 15 a3.toNatClampNeg)).toNatClampNeg) = (M (a1 + 4) (a2 + (2 * (M 15 a3.toNatClampNeg))).toNatClampNeg) → (
   Q 0
  )) ∧ (¬ (M (a1 + 4) (a2 + (M 15 a3.toNatClampNeg)).toNatClampNeg) = (M (a1 + 4) (a2 + (2 * (M 15 a3.toNatClampNeg))).toNatClampNeg) → (
   Q 1
  ))
set_option maxRecDepth 20000 in
theorem c_X1_mattersAt (l : Launch) (P : jP) (a1 : Nat) (a2 : Int32) (a3 : Int32) (M : jM) (N : jN) (Q : Int32 → Prop) (h : w_X1_mattersAt P a1 a2 a3 M Q) : jC l yX1_mattersAt cX1_mattersAt 5 (some .boolean) rm_X1_mattersAt LC [.ref (P.1 5), .ref (P.1 a1), .int a2, .int a3] P M N (jqi P (fun r M' N' => M = M' ∧ N = N' ∧ Q r )) := by
  refine jC_of (by decide +kernel) [(0, .ref (P.1 5)), (1, .ref (P.1 a1)), (2, .int a2), (3, .int a3)] (Nat.le_of_ble_eq_true rfl) rfl (fun X o => ?_)
  obtain ⟨E, hE⟩ : ∃ E, E = jE X rm_X1_mattersAt (jqi P (fun r M' N' => M = M' ∧ N = N' ∧ Q r )) := ⟨_, rfl⟩
  rw [← hE]
  unfold w_X1_mattersAt at h
  refine j_aload_n o dX1_mattersAt_0 rfl ?_
  refine j_getf o (g := 5) (slot := 0) (ci := 1) (v := .ref (P.1 2)) rfl jin_X1 (by decide) rfl jf_X1_9 (fun _ => rfl) rfl dX1_mattersAt_1 ?_
  refine j_getf o (g := 2) (slot := 4) (ci := 3) (v := .ref (P.1 15)) rfl jin_X3 (by decide) rfl jf_X1_76 (fun _ => rfl) rfl dX1_mattersAt_4 ?_
  refine j_iload_n o dX1_mattersAt_7 rfl ?_
  obtain ⟨hb1, h⟩ := h
  refine j_iald o (g := 15) (fun _ => rfl) hb1 dX1_mattersAt_8 ?_
  refine j_istore o [(4, .int (M 15 a3.toNatClampNeg)), (0, .ref (P.1 5)), (1, .ref (P.1 a1)), (2, .int a2), (3, .int a3)] dX1_mattersAt_9 (by decide) rfl ?_
  refine j_aload_n o dX1_mattersAt_11 rfl ?_
  obtain ⟨hb2, h⟩ := h
  refine j_getf o (g := a1) (slot := 4) (ci := 4) (v := .ref (P.1 (a1 + 4))) rfl jin_X4 (by decide) rfl jf_X1_66 (fun tA => LC_lw hb2 tA _ _) rfl dX1_mattersAt_12 ?_
  refine j_iload_n o dX1_mattersAt_15 rfl ?_
  refine j_iload o dX1_mattersAt_16 rfl ?_
  refine j_iadd o dX1_mattersAt_18 ?_
  obtain ⟨hb3, h⟩ := h
  obtain ⟨nnhb3, hchb3, hihb3⟩ := hb3
  refine j_iald o (g := a1 + 4) (fun tA => LC_ia hchb3 tA _ _) hihb3 dX1_mattersAt_19 ?_
  refine j_aload_n o dX1_mattersAt_20 rfl ?_
  obtain ⟨hb4, h⟩ := h
  refine j_getf o (g := a1) (slot := 4) (ci := 4) (v := .ref (P.1 (a1 + 4))) rfl jin_X4 (by decide) rfl jf_X1_66 (fun tA => LC_lw hb4 tA _ _) rfl dX1_mattersAt_21 ?_
  refine j_iload_n o dX1_mattersAt_24 rfl ?_
  refine j_iconst o (v := 2) dX1_mattersAt_25 rfl ?_
  refine j_iload o dX1_mattersAt_26 rfl ?_
  refine j_imul o dX1_mattersAt_28 ?_
  refine j_iadd o dX1_mattersAt_29 ?_
  obtain ⟨hb5, h⟩ := h
  obtain ⟨nnhb5, hchb5, hihb5⟩ := hb5
  refine j_iald o (g := a1 + 4) (fun tA => LC_ia hchb5 tA _ _) hihb5 dX1_mattersAt_30 ?_
  refine j_icmp_eq o (tgt := 38) dX1_mattersAt_31 (by decide) (fun c6 => ?_) (fun c6 => ?_)
  · replace h := h.1 c6
    refine j_iconst o (v := 0) dX1_mattersAt_38 rfl ?_
    rw [hE]
    exact j_zret o rfl dX1_mattersAt_39 ⟨_, rfl, rfl, rfl, rfl, h⟩
  · replace h := h.2 c6
    refine j_iconst o (v := 1) dX1_mattersAt_34 rfl ?_
    refine j_goto o (tgt := 39) dX1_mattersAt_35 (by decide) ?_
    rw [hE]
    exact j_zret o rfl dX1_mattersAt_39 ⟨_, rfl, rfl, rfl, rfl, h⟩

abbrev rm_X1_boxes : Room := { frames := 1, cells := 0, slots := 0, locals := 24 }
def w_X1_boxes (P : jP) (a1 : Nat) (a2 : Int32) (a3 : Int32) (M : jM) (Q : Int32 → jM → Prop) : Prop :=
  ∀ R19 : Int32 → Int32 → Int32 → jM → Prop, (∀ (x1 : Int32) (x2 : Int32) (x3 : Int32) (M4 : jM), (
   w_J6_bitCount_0f7a4 P a2 (fun r5 =>
   (((1 : Int32) <<< (r5 &&& 31)) ≤ x3 → (
    Q x1 M4
   )) ∧ (¬ ((1 : Int32) <<< (r5 &&& 31)) ≤ x3 → (
    w_X3_place P a2 x2 M4 (fun r9 =>
    cLw P a1 = true ∧
    jin P (a1 + 4) r9 ∧
    w_X1_mattersAt P a1 r9 a3 M4 (fun r14 =>
    ∀ R100 : Int32 → jM → Prop, (∀ (x17 : Int32) (M18 : jM), (
     R19 x17 ((x2 - a2) &&& a2) (x3 + 1) M18
    ) → R100 x17 M18) →
    (r14 = 0 → (
     R100 x1 M4
    )) ∧ (¬ r14 = 0 → (
     ((Int32.ofNat (P.2.2 3)) ≤ (M4 (a1 + 4) r9.toNatClampNeg) → (
      R100 x1 M4
     )) ∧ (¬ (Int32.ofNat (P.2.2 3)) ≤ (M4 (a1 + 4) r9.toNatClampNeg) → (
      vp_in (M4 (a1 + 4) r9.toNatClampNeg) (P.2.2 3) ∧
      ((M4 23 (M4 (a1 + 4) r9.toNatClampNeg).toNatClampNeg) = (M4 5 6) → (
       R100 x1 M4
      )) ∧ (¬ (M4 23 (M4 (a1 + 4) r9.toNatClampNeg).toNatClampNeg) = (M4 5 6) → (
       vp_in (M4 (a1 + 4) r9.toNatClampNeg) (P.2.2 3) ∧
       ∀ M24 : jM, M24 = upM M4 23 (M4 (a1 + 4) r9.toNatClampNeg).toNatClampNeg (M4 5 6) →
       R100 (x1 + 1) M24
      ))
     ))
    ))))
   )))
  ) → R19 x1 x2 x3 M4) →
  R19 0 0 0 (upM M 5 6 ((M 5 6) + 1))
set_option maxRecDepth 20000 in
theorem c_X1_boxes (l : Launch) (P : jP) (a1 : Nat) (a2 : Int32) (a3 : Int32) (M : jM) (N : jN) (Q : Int32 → jM → Prop) (h : w_X1_boxes P a1 a2 a3 M Q) : jC l yX1_boxes cX1_boxes 9 (some .int) rm_X1_boxes LC [.ref (P.1 5), .ref (P.1 a1), .int a2, .int a3] P M N (jqi P (fun r M' N' => N = N' ∧ Q r M' )) := by
  refine jC_of (by decide +kernel) [(0, .ref (P.1 5)), (1, .ref (P.1 a1)), (2, .int a2), (3, .int a3)] (Nat.le_of_ble_eq_true rfl) rfl (fun X o => ?_)
  obtain ⟨E, hE⟩ : ∃ E, E = jE X rm_X1_boxes (jqi P (fun r M' N' => N = N' ∧ Q r M' )) := ⟨_, rfl⟩
  rw [← hE]
  unfold w_X1_boxes at h
  refine j_iconst o (v := 0) dX1_boxes_0 rfl ?_
  refine j_istore o [(4, .int 0), (0, .ref (P.1 5)), (1, .ref (P.1 a1)), (2, .int a2), (3, .int a3)] dX1_boxes_1 (by decide) rfl ?_
  refine j_iconst o (v := 0) dX1_boxes_3 rfl ?_
  refine j_istore o [(5, .int 0), (4, .int 0), (0, .ref (P.1 5)), (1, .ref (P.1 a1)), (2, .int a2), (3, .int a3)] dX1_boxes_4 (by decide) rfl ?_
  refine j_aload_n o dX1_boxes_6 rfl ?_
  refine j_dup o dX1_boxes_7 rfl ?_
  refine j_getf o (g := 5) (slot := 6) (ci := 1) (v := .int (M 5 6)) rfl jin_X1 (by decide) rfl jf_X1_51 (fun _ => rfl) rfl dX1_boxes_8 ?_
  refine j_iconst o (v := 1) dX1_boxes_11 rfl ?_
  refine j_iadd o dX1_boxes_12 ?_
  refine j_putf o (M1 := upM M 5 6 ((M 5 6) + 1)) (N1 := N) (g := 5) (slot := 6) (ci := 1) (ty := .int) rfl jin_X1 tyX1_ok nmX1 (by decide) rfl rfl jf_X1_51 (by decide +kernel) rfl rfl (Nat.le_of_ble_eq_true rfl) (fun _ => rfl) (fun _ => rfl) (fun _ hj => upM_ne _ _ _ hj) (fun _ _ => rfl) dX1_boxes_13 ?_
  refine j_iconst o (v := 0) dX1_boxes_16 rfl ?_
  refine j_istore o [(6, .int 0), (5, .int 0), (4, .int 0), (0, .ref (P.1 5)), (1, .ref (P.1 a1)), (2, .int a2), (3, .int a3)] dX1_boxes_17 (by decide) rfl ?_
  replace h := h (fun (x1 : Int32) (x2 : Int32) (x3 : Int32) (M4 : jM) => J X P M4 N 0 0 E 9 19 [(0, .ref (P.1 5)), (1, .ref (P.1 a1)), (2, .int a2), (3, .int a3), (4, .int x1), (5, .int x2), (6, .int x3)] []) (by
    intro x1 x2 x3 M4 h
    refine j_iload o dX1_boxes_19 rfl ?_
    refine j_iconst o (v := 1) dX1_boxes_21 rfl ?_
    refine j_iload_n o dX1_boxes_22 rfl ?_
    refine j_callSi o (c_J6_bitCount_0f7a4 l P a2 M4 N _ h) dX1_boxes_23 jc_X1_57 jn_J6_bitCount_0f7a4 rfl rfl rfl rfl (fun r5 Mz6 Nz7 h => ?_)
    obtain ⟨rfl, rfl, h⟩ := h
    refine j_ishl o dX1_boxes_26 ?_
    refine j_icmp_ge o (tgt := 114) dX1_boxes_27 (by decide) (fun c8 => ?_) (fun c8 => ?_)
    · replace h := h.1 c8
      refine j_iload o dX1_boxes_114 rfl ?_
      rw [hE]
      exact j_iret o dX1_boxes_116 ⟨_, rfl, rfl, rfl, h⟩
    · replace h := h.2 c8
      refine j_aload_n o dX1_boxes_30 rfl ?_
      refine j_getf o (g := 5) (slot := 0) (ci := 1) (v := .ref (P.1 2)) rfl jin_X1 (by decide) rfl jf_X1_9 (fun _ => rfl) rfl dX1_boxes_31 ?_
      refine j_iload_n o dX1_boxes_34 rfl ?_
      refine j_iload o dX1_boxes_35 rfl ?_
      refine j_callVi (g := 2) (ci := 3) o (c_X3_place l P a2 x2 M4 N _ h) dX1_boxes_37 jc_X1_63 jn_X3_place rfl rfl rfl (fun _ => rfl) rfl rfl (fun r9 Mz10 Nz11 h => ?_)
      obtain ⟨rfl, rfl, h⟩ := h
      refine j_istore o [(7, .int r9), (0, .ref (P.1 5)), (1, .ref (P.1 a1)), (2, .int a2), (3, .int a3), (4, .int x1), (5, .int x2), (6, .int x3)] dX1_boxes_40 (by decide) rfl ?_
      refine j_aload_n o dX1_boxes_42 rfl ?_
      obtain ⟨hb12, h⟩ := h
      refine j_getf o (g := a1) (slot := 4) (ci := 4) (v := .ref (P.1 (a1 + 4))) rfl jin_X4 (by decide) rfl jf_X1_66 (fun tA => LC_lw hb12 tA _ _) rfl dX1_boxes_43 ?_
      refine j_iload o dX1_boxes_46 rfl ?_
      obtain ⟨hb13, h⟩ := h
      obtain ⟨nnhb13, hchb13, hihb13⟩ := hb13
      refine j_iald o (g := a1 + 4) (fun tA => LC_ia hchb13 tA _ _) hihb13 dX1_boxes_48 ?_
      refine j_istore o [(8, .int (M4 (a1 + 4) r9.toNatClampNeg)), (7, .int r9), (0, .ref (P.1 5)), (1, .ref (P.1 a1)), (2, .int a2), (3, .int a3), (4, .int x1), (5, .int x2), (6, .int x3)] dX1_boxes_49 (by decide) rfl ?_
      refine j_aload_n o dX1_boxes_51 rfl ?_
      refine j_aload_n o dX1_boxes_52 rfl ?_
      refine j_iload o dX1_boxes_53 rfl ?_
      refine j_iload_n o dX1_boxes_55 rfl ?_
      refine j_callVi (g := 5) (ci := 1) o (c_X1_mattersAt l P a1 r9 a3 M4 N _ h) dX1_boxes_56 jc_X1_82 jn_X1_mattersAt rfl rfl rfl (fun _ => rfl) rfl rfl (fun r14 Mz15 Nz16 h => ?_)
      obtain ⟨rfl, rfl, h⟩ := h
      replace h := h (fun (x17 : Int32) (M18 : jM) => J X P M18 N 0 0 E 9 100 [(0, .ref (P.1 5)), (1, .ref (P.1 a1)), (2, .int a2), (3, .int a3), (4, .int x17), (5, .int x2), (6, .int x3)] []) (by
        intro x17 M18 h
        refine j_iload o dX1_boxes_100 rfl ?_
        refine j_iload_n o dX1_boxes_102 rfl ?_
        refine j_isub o dX1_boxes_103 ?_
        refine j_iload_n o dX1_boxes_104 rfl ?_
        refine j_iand o dX1_boxes_105 ?_
        refine j_istore o [(5, .int ((x2 - a2) &&& a2)), (0, .ref (P.1 5)), (1, .ref (P.1 a1)), (2, .int a2), (3, .int a3), (4, .int x17), (6, .int x3)] dX1_boxes_106 (by decide) rfl ?_
        refine j_iinc o (v := x3 + 1) [(6, .int (x3 + 1)), (5, .int ((x2 - a2) &&& a2)), (0, .ref (P.1 5)), (1, .ref (P.1 a1)), (2, .int a2), (3, .int a3), (4, .int x17)] dX1_boxes_108 rfl rfl (by decide) rfl ?_
        refine j_goto o (tgt := 19) dX1_boxes_111 (by decide) ?_
        exact j_pick [2, 3, 4, 5, 6, 1, 0] rfl h)
      refine j_if_eq o (tgt := 100) dX1_boxes_59 (by decide) (fun c19 => ?_) (fun c19 => ?_)
      · replace h := h.1 c19
        exact j_pick [2, 3, 4, 5, 6, 7, 8] rfl h
      · replace h := h.2 c19
        refine j_iload o dX1_boxes_62 rfl ?_
        refine j_aload_n o dX1_boxes_64 rfl ?_
        refine j_getf o (g := 5) (slot := 2) (ci := 1) (v := .ref (P.1 23)) rfl jin_X1 (by decide) rfl jf_X1_32 (fun _ => rfl) rfl dX1_boxes_65 ?_
        refine j_alen o (g := 23) (t0 := 0) (fun _ => rfl) (fun _ => rfl) dX1_boxes_68 ?_
        refine j_icmp_ge o (tgt := 100) dX1_boxes_69 (by decide) (fun c20 => ?_) (fun c20 => ?_)
        · replace h := h.1 c20
          exact j_pick [2, 3, 4, 5, 6, 7, 8] rfl h
        · replace h := h.2 c20
          refine j_aload_n o dX1_boxes_72 rfl ?_
          refine j_getf o (g := 5) (slot := 2) (ci := 1) (v := .ref (P.1 23)) rfl jin_X1 (by decide) rfl jf_X1_32 (fun _ => rfl) rfl dX1_boxes_73 ?_
          refine j_iload o dX1_boxes_76 rfl ?_
          obtain ⟨hb21, h⟩ := h
          refine j_iald o (g := 23) (fun _ => rfl) hb21 dX1_boxes_78 ?_
          refine j_aload_n o dX1_boxes_79 rfl ?_
          refine j_getf o (g := 5) (slot := 6) (ci := 1) (v := .int (M4 5 6)) rfl jin_X1 (by decide) rfl jf_X1_51 (fun _ => rfl) rfl dX1_boxes_80 ?_
          refine j_icmp_eq o (tgt := 100) dX1_boxes_83 (by decide) (fun c22 => ?_) (fun c22 => ?_)
          · replace h := h.1 c22
            exact j_pick [2, 3, 4, 5, 6, 7, 8] rfl h
          · replace h := h.2 c22
            refine j_aload_n o dX1_boxes_86 rfl ?_
            refine j_getf o (g := 5) (slot := 2) (ci := 1) (v := .ref (P.1 23)) rfl jin_X1 (by decide) rfl jf_X1_32 (fun _ => rfl) rfl dX1_boxes_87 ?_
            refine j_iload o dX1_boxes_90 rfl ?_
            refine j_aload_n o dX1_boxes_92 rfl ?_
            refine j_getf o (g := 5) (slot := 6) (ci := 1) (v := .int (M4 5 6)) rfl jin_X1 (by decide) rfl jf_X1_51 (fun _ => rfl) rfl dX1_boxes_93 ?_
            obtain ⟨hb23, h⟩ := h
            refine j_iast o (g := 23) (fun _ _ _ => rfl) hb23 dX1_boxes_96 ?_
            refine j_nameM (fun M24 hM24 => ?_)
            replace h := h M24 hM24
            refine j_iinc o (v := x1 + 1) [(4, .int (x1 + 1)), (8, .int (M4 (a1 + 4) r9.toNatClampNeg)), (7, .int r9), (0, .ref (P.1 5)), (1, .ref (P.1 a1)), (2, .int a2), (3, .int a3), (5, .int x2), (6, .int x3)] dX1_boxes_97 rfl rfl (by decide) rfl ?_
            exact j_pick [3, 4, 5, 6, 0, 7, 8] rfl h)
  exact j_pick [3, 4, 5, 6, 2, 1, 0] rfl h

abbrev rm_X1_keepOrder : Room := { frames := 0, cells := 0, slots := 0, locals := 0 }
def w_X1_keepOrder (P : jP) (a1 : Int32) (M : jM) (Q : Int32 → jM → Prop) : Prop :=
  ∀ R15 : Int32 → Int32 → Int32 → jM → Prop, (∀ (x1 : Int32) (x2 : Int32) (x3 : Int32) (M4 : jM), (
   ∀ R68 : Prop, ((
    (¬ x1 = 0 → (
     Q 0 M4
    )) ∧ (x1 = 0 → (
     (¬ x2 = (M4 2 1) → (
      Q 0 M4
     )) ∧ (x2 = (M4 2 1) → (
      Q 1 M4
     ))
    ))
   ) → R68) →
   (x3 < 0 → (
    R68
   )) ∧ (¬ x3 < 0 → (
    (x1 < 0 → (
     R68
    )) ∧ (¬ x1 < 0 → (
     ¬ (M4 2 0) = 0 ∧
     vp_in x3 (P.2.2 0) ∧
     ∀ M11 : jM, M11 = upM M4 26 x3.toNatClampNeg (x1 - x1 / (M4 2 0) * (M4 2 0)) →
     vp_in x3 (P.2.2 0) ∧
     ∀ y13 : Int32, y13 = x2 ||| ((1 : Int32) <<< ((M11 26 x3.toNatClampNeg) &&& 31)) →
     ¬ (M11 2 0) = 0 ∧
     R15 (x1 / (M11 2 0)) y13 (x3 + (-1)) M11
    ))
   ))
  ) → R15 x1 x2 x3 M4) →
  R15 a1 0 ((M 2 0) - 1) M
set_option maxRecDepth 20000 in
theorem c_X1_keepOrder (l : Launch) (P : jP) (a1 : Int32) (M : jM) (N : jN) (Q : Int32 → jM → Prop) (h : w_X1_keepOrder P a1 M Q) : jC l yX1_keepOrder cX1_keepOrder 5 (some .boolean) rm_X1_keepOrder LC [.ref (P.1 5), .int a1] P M N (jqi P (fun r M' N' => N = N' ∧ Q r M' )) := by
  refine jC_of (by decide +kernel) [(0, .ref (P.1 5)), (1, .int a1)] (Nat.le_of_ble_eq_true rfl) rfl (fun X o => ?_)
  obtain ⟨E, hE⟩ : ∃ E, E = jE X rm_X1_keepOrder (jqi P (fun r M' N' => N = N' ∧ Q r M' )) := ⟨_, rfl⟩
  rw [← hE]
  unfold w_X1_keepOrder at h
  refine j_iload_n o dX1_keepOrder_0 rfl ?_
  refine j_istore_n o [(2, .int a1), (0, .ref (P.1 5)), (1, .int a1)] dX1_keepOrder_1 (by decide) rfl ?_
  refine j_iconst o (v := 0) dX1_keepOrder_2 rfl ?_
  refine j_istore_n o [(3, .int 0), (2, .int a1), (0, .ref (P.1 5)), (1, .int a1)] dX1_keepOrder_3 (by decide) rfl ?_
  refine j_aload_n o dX1_keepOrder_4 rfl ?_
  refine j_getf o (g := 5) (slot := 0) (ci := 1) (v := .ref (P.1 2)) rfl jin_X1 (by decide) rfl jf_X1_9 (fun _ => rfl) rfl dX1_keepOrder_5 ?_
  refine j_getf o (g := 2) (slot := 0) (ci := 3) (v := .int (M 2 0)) rfl jin_X3 (by decide) rfl jf_X1_42 (fun _ => rfl) rfl dX1_keepOrder_8 ?_
  refine j_iconst o (v := 1) dX1_keepOrder_11 rfl ?_
  refine j_isub o dX1_keepOrder_12 ?_
  refine j_istore o [(4, .int ((M 2 0) - 1)), (3, .int 0), (2, .int a1), (0, .ref (P.1 5)), (1, .int a1)] dX1_keepOrder_13 (by decide) rfl ?_
  replace h := h (fun (x1 : Int32) (x2 : Int32) (x3 : Int32) (M4 : jM) => J X P M4 N 0 0 E 5 15 [(0, .ref (P.1 5)), (2, .int x1), (3, .int x2), (4, .int x3)] []) (by
    intro x1 x2 x3 M4 h
    refine j_iload o dX1_keepOrder_15 rfl ?_
    replace h := h (J X P M4 N 0 0 E 5 68 [(0, .ref (P.1 5)), (2, .int x1), (3, .int x2)] []) (by
      intro h
      refine j_iload_n o dX1_keepOrder_68 rfl ?_
      refine j_if_ne o (tgt := 87) dX1_keepOrder_69 (by decide) (fun c5 => ?_) (fun c5 => ?_)
      · replace h := h.1 c5
        refine j_iconst o (v := 0) dX1_keepOrder_87 rfl ?_
        rw [hE]
        exact j_zret o rfl dX1_keepOrder_88 ⟨_, rfl, rfl, rfl, h⟩
      · replace h := h.2 c5
        refine j_iload_n o dX1_keepOrder_72 rfl ?_
        refine j_aload_n o dX1_keepOrder_73 rfl ?_
        refine j_getf o (g := 5) (slot := 0) (ci := 1) (v := .ref (P.1 2)) rfl jin_X1 (by decide) rfl jf_X1_9 (fun _ => rfl) rfl dX1_keepOrder_74 ?_
        refine j_getf o (g := 2) (slot := 1) (ci := 3) (v := .int (M4 2 1)) rfl jin_X3 (by decide) rfl jf_X1_48 (fun _ => rfl) rfl dX1_keepOrder_77 ?_
        refine j_icmp_ne o (tgt := 87) dX1_keepOrder_80 (by decide) (fun c6 => ?_) (fun c6 => ?_)
        · replace h := h.1 c6
          refine j_iconst o (v := 0) dX1_keepOrder_87 rfl ?_
          rw [hE]
          exact j_zret o rfl dX1_keepOrder_88 ⟨_, rfl, rfl, rfl, h⟩
        · replace h := h.2 c6
          refine j_iconst o (v := 1) dX1_keepOrder_83 rfl ?_
          refine j_goto o (tgt := 88) dX1_keepOrder_84 (by decide) ?_
          rw [hE]
          exact j_zret o rfl dX1_keepOrder_88 ⟨_, rfl, rfl, rfl, h⟩)
    refine j_if_lt o (tgt := 68) dX1_keepOrder_17 (by decide) (fun c7 => ?_) (fun c7 => ?_)
    · replace h := h.1 c7
      exact j_pick [0, 1, 2] rfl h
    · replace h := h.2 c7
      refine j_iload_n o dX1_keepOrder_20 rfl ?_
      refine j_if_lt o (tgt := 68) dX1_keepOrder_21 (by decide) (fun c8 => ?_) (fun c8 => ?_)
      · replace h := h.1 c8
        exact j_pick [0, 1, 2] rfl h
      · replace h := h.2 c8
        refine j_aload_n o dX1_keepOrder_24 rfl ?_
        refine j_getf o (g := 5) (slot := 5) (ci := 1) (v := .ref (P.1 26)) rfl jin_X1 (by decide) rfl jf_X1_45 (fun _ => rfl) rfl dX1_keepOrder_25 ?_
        refine j_iload o dX1_keepOrder_28 rfl ?_
        refine j_iload_n o dX1_keepOrder_30 rfl ?_
        refine j_aload_n o dX1_keepOrder_31 rfl ?_
        refine j_getf o (g := 5) (slot := 0) (ci := 1) (v := .ref (P.1 2)) rfl jin_X1 (by decide) rfl jf_X1_9 (fun _ => rfl) rfl dX1_keepOrder_32 ?_
        refine j_getf o (g := 2) (slot := 0) (ci := 3) (v := .int (M4 2 0)) rfl jin_X3 (by decide) rfl jf_X1_42 (fun _ => rfl) rfl dX1_keepOrder_35 ?_
        obtain ⟨hz9, h⟩ := h
        refine j_irem o dX1_keepOrder_38 hz9 ?_
        obtain ⟨hb10, h⟩ := h
        refine j_iast o (g := 26) (fun _ _ _ => rfl) hb10 dX1_keepOrder_39 ?_
        refine j_nameM (fun M11 hM11 => ?_)
        replace h := h M11 hM11
        refine j_iload_n o dX1_keepOrder_40 rfl ?_
        refine j_iconst o (v := 1) dX1_keepOrder_41 rfl ?_
        refine j_aload_n o dX1_keepOrder_42 rfl ?_
        refine j_getf o (g := 5) (slot := 5) (ci := 1) (v := .ref (P.1 26)) rfl jin_X1 (by decide) rfl jf_X1_45 (fun _ => rfl) rfl dX1_keepOrder_43 ?_
        refine j_iload o dX1_keepOrder_46 rfl ?_
        obtain ⟨hb12, h⟩ := h
        refine j_iald o (g := 26) (fun _ => rfl) hb12 dX1_keepOrder_48 ?_
        refine j_ishl o dX1_keepOrder_49 ?_
        refine j_ior o dX1_keepOrder_50 ?_
        refine j_topi (fun y13 hy13 => ?_)
        replace h := h y13 hy13
        refine j_istore_n o [(3, .int y13), (0, .ref (P.1 5)), (2, .int x1), (4, .int x3)] dX1_keepOrder_51 (by decide) rfl ?_
        refine j_iload_n o dX1_keepOrder_52 rfl ?_
        refine j_aload_n o dX1_keepOrder_53 rfl ?_
        refine j_getf o (g := 5) (slot := 0) (ci := 1) (v := .ref (P.1 2)) rfl jin_X1 (by decide) rfl jf_X1_9 (fun _ => rfl) rfl dX1_keepOrder_54 ?_
        refine j_getf o (g := 2) (slot := 0) (ci := 3) (v := .int (M11 2 0)) rfl jin_X3 (by decide) rfl jf_X1_42 (fun _ => rfl) rfl dX1_keepOrder_57 ?_
        obtain ⟨hz14, h⟩ := h
        refine j_idiv o dX1_keepOrder_60 hz14 ?_
        refine j_istore_n o [(2, .int (x1 / (M11 2 0))), (3, .int y13), (0, .ref (P.1 5)), (4, .int x3)] dX1_keepOrder_61 (by decide) rfl ?_
        refine j_iinc o (v := x3 + (-1)) [(4, .int (x3 + (-1))), (2, .int (x1 / (M11 2 0))), (3, .int y13), (0, .ref (P.1 5))] dX1_keepOrder_62 rfl rfl (by decide) rfl ?_
        refine j_goto o (tgt := 15) dX1_keepOrder_65 (by decide) ?_
        exact j_pick [3, 1, 2, 0] rfl h)
  exact j_pick [3, 2, 1, 0] rfl h

abbrev rm_X1_boxesInOrder : Room := { frames := 2, cells := 0, slots := 0, locals := 52 }
def w_X1_boxesInOrder (P : jP) (a1 : Nat) (a2 : Int32) (M : jM) (Q : Int32 → jM → Prop) : Prop :=
  ∀ R11 : Int32 → Int32 → Int32 → Int32 → jM → Prop, (∀ (x1 : Int32) (x2 : Int32) (x3 : Int32) (x4 : Int32) (M5 : jM), (
   ((M5 2 0) ≤ x4 → (
    (a2 = 0 → (
     Q x1 M5
    )) ∧ (¬ a2 = 0 → (
     Q x2 M5
    ))
   )) ∧ (¬ (M5 2 0) ≤ x4 → (
    vp_in x4 (P.2.2 0) ∧
    w_X1_boxes P a1 x3 (M5 26 x4.toNatClampNeg) M5 (fun r9 M10 =>
    vp_in x4 (P.2.2 0) ∧
    ∀ y13 : Int32, y13 = x3 ||| ((1 : Int32) <<< ((M10 26 x4.toNatClampNeg) &&& 31)) →
    R11 (x1 + r9) (if x2 < r9 then r9 else x2) y13 (x4 + 1) M10)
   ))
  ) → R11 x1 x2 x3 x4 M5) →
  R11 0 0 0 0 M
set_option maxRecDepth 20000 in
theorem c_X1_boxesInOrder (l : Launch) (P : jP) (a1 : Nat) (a2 : Int32) (M : jM) (N : jN) (Q : Int32 → jM → Prop) (h : w_X1_boxesInOrder P a1 a2 M Q) : jC l yX1_boxesInOrder cX1_boxesInOrder 8 (some .int) rm_X1_boxesInOrder LC [.ref (P.1 5), .ref (P.1 a1), .int a2] P M N (jqi P (fun r M' N' => N = N' ∧ Q r M' )) := by
  refine jC_of (by decide +kernel) [(0, .ref (P.1 5)), (1, .ref (P.1 a1)), (2, .int a2)] (Nat.le_of_ble_eq_true rfl) rfl (fun X o => ?_)
  obtain ⟨E, hE⟩ : ∃ E, E = jE X rm_X1_boxesInOrder (jqi P (fun r M' N' => N = N' ∧ Q r M' )) := ⟨_, rfl⟩
  rw [← hE]
  unfold w_X1_boxesInOrder at h
  refine j_iconst o (v := 0) dX1_boxesInOrder_0 rfl ?_
  refine j_istore_n o [(3, .int 0), (0, .ref (P.1 5)), (1, .ref (P.1 a1)), (2, .int a2)] dX1_boxesInOrder_1 (by decide) rfl ?_
  refine j_iconst o (v := 0) dX1_boxesInOrder_2 rfl ?_
  refine j_istore o [(4, .int 0), (3, .int 0), (0, .ref (P.1 5)), (1, .ref (P.1 a1)), (2, .int a2)] dX1_boxesInOrder_3 (by decide) rfl ?_
  refine j_iconst o (v := 0) dX1_boxesInOrder_5 rfl ?_
  refine j_istore o [(5, .int 0), (4, .int 0), (3, .int 0), (0, .ref (P.1 5)), (1, .ref (P.1 a1)), (2, .int a2)] dX1_boxesInOrder_6 (by decide) rfl ?_
  refine j_iconst o (v := 0) dX1_boxesInOrder_8 rfl ?_
  refine j_istore o [(6, .int 0), (5, .int 0), (4, .int 0), (3, .int 0), (0, .ref (P.1 5)), (1, .ref (P.1 a1)), (2, .int a2)] dX1_boxesInOrder_9 (by decide) rfl ?_
  replace h := h (fun (x1 : Int32) (x2 : Int32) (x3 : Int32) (x4 : Int32) (M5 : jM) => J X P M5 N 0 0 E 8 11 [(0, .ref (P.1 5)), (1, .ref (P.1 a1)), (2, .int a2), (3, .int x1), (4, .int x2), (5, .int x3), (6, .int x4)] []) (by
    intro x1 x2 x3 x4 M5 h
    refine j_iload o dX1_boxesInOrder_11 rfl ?_
    refine j_aload_n o dX1_boxesInOrder_13 rfl ?_
    refine j_getf o (g := 5) (slot := 0) (ci := 1) (v := .ref (P.1 2)) rfl jin_X1 (by decide) rfl jf_X1_9 (fun _ => rfl) rfl dX1_boxesInOrder_14 ?_
    refine j_getf o (g := 2) (slot := 0) (ci := 3) (v := .int (M5 2 0)) rfl jin_X3 (by decide) rfl jf_X1_42 (fun _ => rfl) rfl dX1_boxesInOrder_17 ?_
    refine j_icmp_ge o (tgt := 73) dX1_boxesInOrder_20 (by decide) (fun c6 => ?_) (fun c6 => ?_)
    · replace h := h.1 c6
      refine j_iload_n o dX1_boxesInOrder_73 rfl ?_
      refine j_if_eq o (tgt := 82) dX1_boxesInOrder_74 (by decide) (fun c7 => ?_) (fun c7 => ?_)
      · replace h := h.1 c7
        refine j_iload_n o dX1_boxesInOrder_82 rfl ?_
        rw [hE]
        exact j_iret o dX1_boxesInOrder_83 ⟨_, rfl, rfl, rfl, h⟩
      · replace h := h.2 c7
        refine j_iload o dX1_boxesInOrder_77 rfl ?_
        refine j_goto o (tgt := 83) dX1_boxesInOrder_79 (by decide) ?_
        rw [hE]
        exact j_iret o dX1_boxesInOrder_83 ⟨_, rfl, rfl, rfl, h⟩
    · replace h := h.2 c6
      refine j_aload_n o dX1_boxesInOrder_23 rfl ?_
      refine j_aload_n o dX1_boxesInOrder_24 rfl ?_
      refine j_iload o dX1_boxesInOrder_25 rfl ?_
      refine j_aload_n o dX1_boxesInOrder_27 rfl ?_
      refine j_getf o (g := 5) (slot := 5) (ci := 1) (v := .ref (P.1 26)) rfl jin_X1 (by decide) rfl jf_X1_45 (fun _ => rfl) rfl dX1_boxesInOrder_28 ?_
      refine j_iload o dX1_boxesInOrder_31 rfl ?_
      obtain ⟨hb8, h⟩ := h
      refine j_iald o (g := 26) (fun _ => rfl) hb8 dX1_boxesInOrder_33 ?_
      refine j_callVi (g := 5) (ci := 1) o (c_X1_boxes l P a1 x3 (M5 26 x4.toNatClampNeg) M5 N _ h) dX1_boxesInOrder_34 jc_X1_86 jn_X1_boxes rfl rfl rfl (fun _ => rfl) rfl rfl (fun r9 M10 Nz11 h => ?_)
      obtain ⟨rfl, h⟩ := h
      refine j_istore o [(7, .int r9), (0, .ref (P.1 5)), (1, .ref (P.1 a1)), (2, .int a2), (3, .int x1), (4, .int x2), (5, .int x3), (6, .int x4)] dX1_boxesInOrder_37 (by decide) rfl ?_
      refine j_iload_n o dX1_boxesInOrder_39 rfl ?_
      refine j_iload o dX1_boxesInOrder_40 rfl ?_
      refine j_iadd o dX1_boxesInOrder_42 ?_
      refine j_istore_n o [(3, .int (x1 + r9)), (7, .int r9), (0, .ref (P.1 5)), (1, .ref (P.1 a1)), (2, .int a2), (4, .int x2), (5, .int x3), (6, .int x4)] dX1_boxesInOrder_43 (by decide) rfl ?_
      refine j_iload o dX1_boxesInOrder_44 rfl ?_
      refine j_iload o dX1_boxesInOrder_46 rfl ?_
      refine j_mmax o dX1_boxesInOrder_48 jc_X1_23 rfl ?_
      refine j_istore o [(4, .int (if x2 < r9 then r9 else x2)), (3, .int (x1 + r9)), (7, .int r9), (0, .ref (P.1 5)), (1, .ref (P.1 a1)), (2, .int a2), (5, .int x3), (6, .int x4)] dX1_boxesInOrder_51 (by decide) rfl ?_
      refine j_iload o dX1_boxesInOrder_53 rfl ?_
      refine j_iconst o (v := 1) dX1_boxesInOrder_55 rfl ?_
      refine j_aload_n o dX1_boxesInOrder_56 rfl ?_
      refine j_getf o (g := 5) (slot := 5) (ci := 1) (v := .ref (P.1 26)) rfl jin_X1 (by decide) rfl jf_X1_45 (fun _ => rfl) rfl dX1_boxesInOrder_57 ?_
      refine j_iload o dX1_boxesInOrder_60 rfl ?_
      obtain ⟨hb12, h⟩ := h
      refine j_iald o (g := 26) (fun _ => rfl) hb12 dX1_boxesInOrder_62 ?_
      refine j_ishl o dX1_boxesInOrder_63 ?_
      refine j_ior o dX1_boxesInOrder_64 ?_
      refine j_topi (fun y13 hy13 => ?_)
      replace h := h y13 hy13
      refine j_istore o [(5, .int y13), (4, .int (if x2 < r9 then r9 else x2)), (3, .int (x1 + r9)), (7, .int r9), (0, .ref (P.1 5)), (1, .ref (P.1 a1)), (2, .int a2), (6, .int x4)] dX1_boxesInOrder_65 (by decide) rfl ?_
      refine j_iinc o (v := x4 + 1) [(6, .int (x4 + 1)), (5, .int y13), (4, .int (if x2 < r9 then r9 else x2)), (3, .int (x1 + r9)), (7, .int r9), (0, .ref (P.1 5)), (1, .ref (P.1 a1)), (2, .int a2)] dX1_boxesInOrder_67 rfl rfl (by decide) rfl ?_
      refine j_goto o (tgt := 11) dX1_boxesInOrder_70 (by decide) ?_
      exact j_pick [5, 6, 7, 3, 2, 1, 0] rfl h)
  exact j_pick [4, 5, 6, 3, 2, 1, 0] rfl h

abbrev rm_X1_askedInOrder : Room := { frames := 1, cells := 0, slots := 0, locals := 24 }
def w_X1_askedInOrder (P : jP) (a1 : Nat) (a2 : Int32) (M : jM) (Q : Int32 → Prop) : Prop :=
  ∀ R5 : Int32 → Int32 → Prop, (∀ (x1 : Int32) (x2 : Int32), (
   ((M 2 0) ≤ x2 → (
    Q x1
   )) ∧ (¬ (M 2 0) ≤ x2 → (
    w_X3_place P x1 (a2 &&& x1) M (fun r4 =>
    vp_in x2 (P.2.2 0) ∧
    w_X1_mattersAt P a1 r4 (M 26 x2.toNatClampNeg) M (fun r8 =>
    ∀ R55 : Int32 → Prop, (∀ (x11 : Int32), (
     R5 x11 (x2 + 1)
    ) → R55 x11) →
    (r8 = 0 → (
     R55 x1
    )) ∧ (¬ r8 = 0 → (
     vp_in x2 (P.2.2 0) ∧
     ∀ y14 : Int32, y14 = x1 ||| ((1 : Int32) <<< ((M 26 x2.toNatClampNeg) &&& 31)) →
     R55 y14
    ))))
   ))
  ) → R5 x1 x2) →
  R5 0 0
set_option maxRecDepth 20000 in
theorem c_X1_askedInOrder (l : Launch) (P : jP) (a1 : Nat) (a2 : Int32) (M : jM) (N : jN) (Q : Int32 → Prop) (h : w_X1_askedInOrder P a1 a2 M Q) : jC l yX1_askedInOrder cX1_askedInOrder 5 (some .int) rm_X1_askedInOrder LC [.ref (P.1 5), .ref (P.1 a1), .int a2] P M N (jqi P (fun r M' N' => M = M' ∧ N = N' ∧ Q r )) := by
  refine jC_of (by decide +kernel) [(0, .ref (P.1 5)), (1, .ref (P.1 a1)), (2, .int a2)] (Nat.le_of_ble_eq_true rfl) rfl (fun X o => ?_)
  obtain ⟨E, hE⟩ : ∃ E, E = jE X rm_X1_askedInOrder (jqi P (fun r M' N' => M = M' ∧ N = N' ∧ Q r )) := ⟨_, rfl⟩
  rw [← hE]
  unfold w_X1_askedInOrder at h
  refine j_iconst o (v := 0) dX1_askedInOrder_0 rfl ?_
  refine j_istore_n o [(3, .int 0), (0, .ref (P.1 5)), (1, .ref (P.1 a1)), (2, .int a2)] dX1_askedInOrder_1 (by decide) rfl ?_
  refine j_iconst o (v := 0) dX1_askedInOrder_2 rfl ?_
  refine j_istore o [(4, .int 0), (3, .int 0), (0, .ref (P.1 5)), (1, .ref (P.1 a1)), (2, .int a2)] dX1_askedInOrder_3 (by decide) rfl ?_
  replace h := h (fun (x1 : Int32) (x2 : Int32) => J X P M N 0 0 E 5 5 [(0, .ref (P.1 5)), (1, .ref (P.1 a1)), (2, .int a2), (3, .int x1), (4, .int x2)] []) (by
    intro x1 x2 h
    refine j_iload o dX1_askedInOrder_5 rfl ?_
    refine j_aload_n o dX1_askedInOrder_7 rfl ?_
    refine j_getf o (g := 5) (slot := 0) (ci := 1) (v := .ref (P.1 2)) rfl jin_X1 (by decide) rfl jf_X1_9 (fun _ => rfl) rfl dX1_askedInOrder_8 ?_
    refine j_getf o (g := 2) (slot := 0) (ci := 3) (v := .int (M 2 0)) rfl jin_X3 (by decide) rfl jf_X1_42 (fun _ => rfl) rfl dX1_askedInOrder_11 ?_
    refine j_icmp_ge o (tgt := 61) dX1_askedInOrder_14 (by decide) (fun c3 => ?_) (fun c3 => ?_)
    · replace h := h.1 c3
      refine j_iload_n o dX1_askedInOrder_61 rfl ?_
      rw [hE]
      exact j_iret o dX1_askedInOrder_62 ⟨_, rfl, rfl, rfl, rfl, h⟩
    · replace h := h.2 c3
      refine j_aload_n o dX1_askedInOrder_17 rfl ?_
      refine j_aload_n o dX1_askedInOrder_18 rfl ?_
      refine j_aload_n o dX1_askedInOrder_19 rfl ?_
      refine j_getf o (g := 5) (slot := 0) (ci := 1) (v := .ref (P.1 2)) rfl jin_X1 (by decide) rfl jf_X1_9 (fun _ => rfl) rfl dX1_askedInOrder_20 ?_
      refine j_iload_n o dX1_askedInOrder_23 rfl ?_
      refine j_iload_n o dX1_askedInOrder_24 rfl ?_
      refine j_iload_n o dX1_askedInOrder_25 rfl ?_
      refine j_iand o dX1_askedInOrder_26 ?_
      refine j_callVi (g := 2) (ci := 3) o (c_X3_place l P x1 (a2 &&& x1) M N _ h) dX1_askedInOrder_27 jc_X1_63 jn_X3_place rfl rfl rfl (fun _ => rfl) rfl rfl (fun r4 Mz5 Nz6 h => ?_)
      obtain ⟨rfl, rfl, h⟩ := h
      refine j_aload_n o dX1_askedInOrder_30 rfl ?_
      refine j_getf o (g := 5) (slot := 5) (ci := 1) (v := .ref (P.1 26)) rfl jin_X1 (by decide) rfl jf_X1_45 (fun _ => rfl) rfl dX1_askedInOrder_31 ?_
      refine j_iload o dX1_askedInOrder_34 rfl ?_
      obtain ⟨hb7, h⟩ := h
      refine j_iald o (g := 26) (fun _ => rfl) hb7 dX1_askedInOrder_36 ?_
      refine j_callVi (g := 5) (ci := 1) o (c_X1_mattersAt l P a1 r4 (M 26 x2.toNatClampNeg) M N _ h) dX1_askedInOrder_37 jc_X1_82 jn_X1_mattersAt rfl rfl rfl (fun _ => rfl) rfl rfl (fun r8 Mz9 Nz10 h => ?_)
      obtain ⟨rfl, rfl, h⟩ := h
      replace h := h (fun (x11 : Int32) => J X P M N 0 0 E 5 55 [(0, .ref (P.1 5)), (1, .ref (P.1 a1)), (2, .int a2), (3, .int x11), (4, .int x2)] []) (by
        intro x11 h
        refine j_iinc o (v := x2 + 1) [(4, .int (x2 + 1)), (0, .ref (P.1 5)), (1, .ref (P.1 a1)), (2, .int a2), (3, .int x11)] dX1_askedInOrder_55 rfl rfl (by decide) rfl ?_
        refine j_goto o (tgt := 5) dX1_askedInOrder_58 (by decide) ?_
        exact j_pick [1, 2, 3, 4, 0] rfl h)
      refine j_if_eq o (tgt := 55) dX1_askedInOrder_40 (by decide) (fun c12 => ?_) (fun c12 => ?_)
      · replace h := h.1 c12
        exact j_pick [0, 1, 2, 3, 4] rfl h
      · replace h := h.2 c12
        refine j_iload_n o dX1_askedInOrder_43 rfl ?_
        refine j_iconst o (v := 1) dX1_askedInOrder_44 rfl ?_
        refine j_aload_n o dX1_askedInOrder_45 rfl ?_
        refine j_getf o (g := 5) (slot := 5) (ci := 1) (v := .ref (P.1 26)) rfl jin_X1 (by decide) rfl jf_X1_45 (fun _ => rfl) rfl dX1_askedInOrder_46 ?_
        refine j_iload o dX1_askedInOrder_49 rfl ?_
        obtain ⟨hb13, h⟩ := h
        refine j_iald o (g := 26) (fun _ => rfl) hb13 dX1_askedInOrder_51 ?_
        refine j_ishl o dX1_askedInOrder_52 ?_
        refine j_ior o dX1_askedInOrder_53 ?_
        refine j_topi (fun y14 hy14 => ?_)
        replace h := h y14 hy14
        refine j_istore_n o [(3, .int y14), (0, .ref (P.1 5)), (1, .ref (P.1 a1)), (2, .int a2), (4, .int x2)] dX1_askedInOrder_54 (by decide) rfl ?_
        exact j_pick [1, 2, 3, 0, 4] rfl h)
  exact j_pick [2, 3, 4, 1, 0] rfl h

abbrev rm_X1_fewest : Room := { frames := 2, cells := 0, slots := 0, locals := 52 }
def w_X1_fewest (P : jP) (a1 : Nat) (a2 : Int32) (M : jM) (Q : Int32 → jM → Prop) : Prop :=
  ∀ R5 : Int32 → Int32 → jM → Prop, (∀ (x1 : Int32) (x2 : Int32) (M3 : jM), (
   ((M3 2 0) ≤ x2 → (
    Q x1 M3
   )) ∧ (¬ (M3 2 0) ≤ x2 → (
    ∀ R66 : Int32 → jM → Prop, (∀ (x5 : Int32) (M6 : jM), (
     R5 x5 (x2 + 1) M6
    ) → R66 x5 M6) →
    (¬ ((a2 >>> (x2 &&& 31)) &&& 1) = 0 → (
     R66 x1 M3
    )) ∧ (((a2 >>> (x2 &&& 31)) &&& 1) = 0 → (
     w_X1_boxes P a1 a2 x2 M3 (fun r8 M9 =>
     vp_in (a2 ||| ((1 : Int32) <<< (x2 &&& 31))) (P.2.2 1) ∧
     ∀ y12 : Int32, y12 = r8 + (M9 25 (a2 ||| ((1 : Int32) <<< (x2 &&& 31))).toNatClampNeg) →
     ∀ R65 : Int32 → Prop, (∀ (x13 : Int32), (
      R66 x13 M9
     ) → R65 x13) →
     (x1 = (-1) → (
      R65 y12
     )) ∧ (¬ x1 = (-1) → (
      (x1 ≤ y12 → (
       R65 x1
      )) ∧ (¬ x1 ≤ y12 → (
       R65 y12
      ))
     )))
    ))
   ))
  ) → R5 x1 x2 M3) →
  R5 (-1) 0 M
set_option maxRecDepth 20000 in
theorem c_X1_fewest (l : Launch) (P : jP) (a1 : Nat) (a2 : Int32) (M : jM) (N : jN) (Q : Int32 → jM → Prop) (h : w_X1_fewest P a1 a2 M Q) : jC l yX1_fewest cX1_fewest 6 (some .int) rm_X1_fewest LC [.ref (P.1 5), .ref (P.1 a1), .int a2] P M N (jqi P (fun r M' N' => N = N' ∧ Q r M' )) := by
  refine jC_of (by decide +kernel) [(0, .ref (P.1 5)), (1, .ref (P.1 a1)), (2, .int a2)] (Nat.le_of_ble_eq_true rfl) rfl (fun X o => ?_)
  obtain ⟨E, hE⟩ : ∃ E, E = jE X rm_X1_fewest (jqi P (fun r M' N' => N = N' ∧ Q r M' )) := ⟨_, rfl⟩
  rw [← hE]
  unfold w_X1_fewest at h
  refine j_iconst o (v := (-1)) dX1_fewest_0 rfl ?_
  refine j_istore_n o [(3, .int (-1)), (0, .ref (P.1 5)), (1, .ref (P.1 a1)), (2, .int a2)] dX1_fewest_1 (by decide) rfl ?_
  refine j_iconst o (v := 0) dX1_fewest_2 rfl ?_
  refine j_istore o [(4, .int 0), (3, .int (-1)), (0, .ref (P.1 5)), (1, .ref (P.1 a1)), (2, .int a2)] dX1_fewest_3 (by decide) rfl ?_
  replace h := h (fun (x1 : Int32) (x2 : Int32) (M3 : jM) => J X P M3 N 0 0 E 6 5 [(0, .ref (P.1 5)), (1, .ref (P.1 a1)), (2, .int a2), (3, .int x1), (4, .int x2)] []) (by
    intro x1 x2 M3 h
    refine j_iload o dX1_fewest_5 rfl ?_
    refine j_aload_n o dX1_fewest_7 rfl ?_
    refine j_getf o (g := 5) (slot := 0) (ci := 1) (v := .ref (P.1 2)) rfl jin_X1 (by decide) rfl jf_X1_9 (fun _ => rfl) rfl dX1_fewest_8 ?_
    refine j_getf o (g := 2) (slot := 0) (ci := 3) (v := .int (M3 2 0)) rfl jin_X3 (by decide) rfl jf_X1_42 (fun _ => rfl) rfl dX1_fewest_11 ?_
    refine j_icmp_ge o (tgt := 72) dX1_fewest_14 (by decide) (fun c4 => ?_) (fun c4 => ?_)
    · replace h := h.1 c4
      refine j_iload_n o dX1_fewest_72 rfl ?_
      rw [hE]
      exact j_iret o dX1_fewest_73 ⟨_, rfl, rfl, rfl, h⟩
    · replace h := h.2 c4
      refine j_iload_n o dX1_fewest_17 rfl ?_
      refine j_iload o dX1_fewest_18 rfl ?_
      refine j_ishr o dX1_fewest_20 ?_
      refine j_iconst o (v := 1) dX1_fewest_21 rfl ?_
      refine j_iand o dX1_fewest_22 ?_
      replace h := h (fun (x5 : Int32) (M6 : jM) => J X P M6 N 0 0 E 6 66 [(0, .ref (P.1 5)), (1, .ref (P.1 a1)), (2, .int a2), (3, .int x5), (4, .int x2)] []) (by
        intro x5 M6 h
        refine j_iinc o (v := x2 + 1) [(4, .int (x2 + 1)), (0, .ref (P.1 5)), (1, .ref (P.1 a1)), (2, .int a2), (3, .int x5)] dX1_fewest_66 rfl rfl (by decide) rfl ?_
        refine j_goto o (tgt := 5) dX1_fewest_69 (by decide) ?_
        exact j_pick [1, 2, 3, 4, 0] rfl h)
      refine j_if_ne o (tgt := 66) dX1_fewest_23 (by decide) (fun c7 => ?_) (fun c7 => ?_)
      · replace h := h.1 c7
        exact j_pick [0, 1, 2, 3, 4] rfl h
      · replace h := h.2 c7
        refine j_aload_n o dX1_fewest_26 rfl ?_
        refine j_aload_n o dX1_fewest_27 rfl ?_
        refine j_iload_n o dX1_fewest_28 rfl ?_
        refine j_iload o dX1_fewest_29 rfl ?_
        refine j_callVi (g := 5) (ci := 1) o (c_X1_boxes l P a1 a2 x2 M3 N _ h) dX1_fewest_31 jc_X1_86 jn_X1_boxes rfl rfl rfl (fun _ => rfl) rfl rfl (fun r8 M9 Nz10 h => ?_)
        obtain ⟨rfl, h⟩ := h
        refine j_aload_n o dX1_fewest_34 rfl ?_
        refine j_getf o (g := 5) (slot := 4) (ci := 1) (v := .ref (P.1 25)) rfl jin_X1 (by decide) rfl jf_X1_39 (fun _ => rfl) rfl dX1_fewest_35 ?_
        refine j_iload_n o dX1_fewest_38 rfl ?_
        refine j_iconst o (v := 1) dX1_fewest_39 rfl ?_
        refine j_iload o dX1_fewest_40 rfl ?_
        refine j_ishl o dX1_fewest_42 ?_
        refine j_ior o dX1_fewest_43 ?_
        obtain ⟨hb11, h⟩ := h
        refine j_iald o (g := 25) (fun _ => rfl) hb11 dX1_fewest_44 ?_
        refine j_iadd o dX1_fewest_45 ?_
        refine j_topi (fun y12 hy12 => ?_)
        replace h := h y12 hy12
        refine j_istore o [(5, .int y12), (0, .ref (P.1 5)), (1, .ref (P.1 a1)), (2, .int a2), (3, .int x1), (4, .int x2)] dX1_fewest_46 (by decide) rfl ?_
        refine j_iload_n o dX1_fewest_48 rfl ?_
        refine j_iconst o (v := (-1)) dX1_fewest_49 rfl ?_
        replace h := h (fun (x13 : Int32) => J X P M9 N 0 0 E 6 65 [(0, .ref (P.1 5)), (1, .ref (P.1 a1)), (2, .int a2), (4, .int x2)] [.int x13]) (by
          intro x13 h
          refine j_istore_n o [(3, .int x13), (0, .ref (P.1 5)), (1, .ref (P.1 a1)), (2, .int a2), (4, .int x2)] dX1_fewest_65 (by decide) rfl ?_
          exact j_pick [1, 2, 3, 0, 4] rfl h)
        refine j_icmp_eq o (tgt := 59) dX1_fewest_50 (by decide) (fun c14 => ?_) (fun c14 => ?_)
        · replace h := h.1 c14
          refine j_iload o dX1_fewest_59 rfl ?_
          refine j_goto o (tgt := 65) dX1_fewest_61 (by decide) ?_
          exact j_pick [1, 2, 3, 5] rfl h
        · replace h := h.2 c14
          refine j_iload o dX1_fewest_53 rfl ?_
          refine j_iload_n o dX1_fewest_55 rfl ?_
          refine j_icmp_ge o (tgt := 64) dX1_fewest_56 (by decide) (fun c15 => ?_) (fun c15 => ?_)
          · replace h := h.1 c15
            refine j_iload_n o dX1_fewest_64 rfl ?_
            exact j_pick [1, 2, 3, 5] rfl h
          · replace h := h.2 c15
            refine j_iload o dX1_fewest_59 rfl ?_
            refine j_goto o (tgt := 65) dX1_fewest_61 (by decide) ?_
            exact j_pick [1, 2, 3, 5] rfl h)
  exact j_pick [2, 3, 4, 1, 0] rfl h

abbrev rm_X1_lowestNext : Room := { frames := 2, cells := 0, slots := 0, locals := 52 }
def w_X1_lowestNext (P : jP) (a1 : Nat) (a2 : Int32) (M : jM) (Q : Int32 → jM → Prop) : Prop :=
  ∀ R2 : Int32 → jM → Prop, (∀ (x1 : Int32) (M2 : jM), (
   ((M2 2 0) ≤ x1 → (
    Q 0 M2
   )) ∧ (¬ (M2 2 0) ≤ x1 → (
    ∀ R50 : jM → Prop, (∀ (M4 : jM), (
     R2 (x1 + 1) M4
    ) → R50 M4) →
    (¬ ((a2 >>> (x1 &&& 31)) &&& 1) = 0 → (
     R50 M2
    )) ∧ (((a2 >>> (x1 &&& 31)) &&& 1) = 0 → (
     w_X1_boxes P a1 a2 x1 M2 (fun r6 M7 =>
     vp_in (a2 ||| ((1 : Int32) <<< (x1 &&& 31))) (P.2.2 1) ∧
     vp_in a2 (P.2.2 1) ∧
     (¬ (r6 + (M7 25 (a2 ||| ((1 : Int32) <<< (x1 &&& 31))).toNatClampNeg)) = (M7 25 a2.toNatClampNeg) → (
      R50 M7
     )) ∧ ((r6 + (M7 25 (a2 ||| ((1 : Int32) <<< (x1 &&& 31))).toNatClampNeg)) = (M7 25 a2.toNatClampNeg) → (
      Q x1 M7
     )))
    ))
   ))
  ) → R2 x1 M2) →
  R2 0 M
set_option maxRecDepth 20000 in
theorem c_X1_lowestNext (l : Launch) (P : jP) (a1 : Nat) (a2 : Int32) (M : jM) (N : jN) (Q : Int32 → jM → Prop) (h : w_X1_lowestNext P a1 a2 M Q) : jC l yX1_lowestNext cX1_lowestNext 4 (some .int) rm_X1_lowestNext LC [.ref (P.1 5), .ref (P.1 a1), .int a2] P M N (jqi P (fun r M' N' => N = N' ∧ Q r M' )) := by
  refine jC_of (by decide +kernel) [(0, .ref (P.1 5)), (1, .ref (P.1 a1)), (2, .int a2)] (Nat.le_of_ble_eq_true rfl) rfl (fun X o => ?_)
  obtain ⟨E, hE⟩ : ∃ E, E = jE X rm_X1_lowestNext (jqi P (fun r M' N' => N = N' ∧ Q r M' )) := ⟨_, rfl⟩
  rw [← hE]
  unfold w_X1_lowestNext at h
  refine j_iconst o (v := 0) dX1_lowestNext_0 rfl ?_
  refine j_istore_n o [(3, .int 0), (0, .ref (P.1 5)), (1, .ref (P.1 a1)), (2, .int a2)] dX1_lowestNext_1 (by decide) rfl ?_
  replace h := h (fun (x1 : Int32) (M2 : jM) => J X P M2 N 0 0 E 4 2 [(0, .ref (P.1 5)), (1, .ref (P.1 a1)), (2, .int a2), (3, .int x1)] []) (by
    intro x1 M2 h
    refine j_iload_n o dX1_lowestNext_2 rfl ?_
    refine j_aload_n o dX1_lowestNext_3 rfl ?_
    refine j_getf o (g := 5) (slot := 0) (ci := 1) (v := .ref (P.1 2)) rfl jin_X1 (by decide) rfl jf_X1_9 (fun _ => rfl) rfl dX1_lowestNext_4 ?_
    refine j_getf o (g := 2) (slot := 0) (ci := 3) (v := .int (M2 2 0)) rfl jin_X3 (by decide) rfl jf_X1_42 (fun _ => rfl) rfl dX1_lowestNext_7 ?_
    refine j_icmp_ge o (tgt := 56) dX1_lowestNext_10 (by decide) (fun c3 => ?_) (fun c3 => ?_)
    · replace h := h.1 c3
      refine j_iconst o (v := 0) dX1_lowestNext_56 rfl ?_
      rw [hE]
      exact j_iret o dX1_lowestNext_57 ⟨_, rfl, rfl, rfl, h⟩
    · replace h := h.2 c3
      refine j_iload_n o dX1_lowestNext_13 rfl ?_
      refine j_iload_n o dX1_lowestNext_14 rfl ?_
      refine j_ishr o dX1_lowestNext_15 ?_
      refine j_iconst o (v := 1) dX1_lowestNext_16 rfl ?_
      refine j_iand o dX1_lowestNext_17 ?_
      replace h := h (fun (M4 : jM) => J X P M4 N 0 0 E 4 50 [(0, .ref (P.1 5)), (1, .ref (P.1 a1)), (2, .int a2), (3, .int x1)] []) (by
        intro M4 h
        refine j_iinc o (v := x1 + 1) [(3, .int (x1 + 1)), (0, .ref (P.1 5)), (1, .ref (P.1 a1)), (2, .int a2)] dX1_lowestNext_50 rfl rfl (by decide) rfl ?_
        refine j_goto o (tgt := 2) dX1_lowestNext_53 (by decide) ?_
        exact j_pick [1, 2, 3, 0] rfl h)
      refine j_if_ne o (tgt := 50) dX1_lowestNext_18 (by decide) (fun c5 => ?_) (fun c5 => ?_)
      · replace h := h.1 c5
        exact j_pick [0, 1, 2, 3] rfl h
      · replace h := h.2 c5
        refine j_aload_n o dX1_lowestNext_21 rfl ?_
        refine j_aload_n o dX1_lowestNext_22 rfl ?_
        refine j_iload_n o dX1_lowestNext_23 rfl ?_
        refine j_iload_n o dX1_lowestNext_24 rfl ?_
        refine j_callVi (g := 5) (ci := 1) o (c_X1_boxes l P a1 a2 x1 M2 N _ h) dX1_lowestNext_25 jc_X1_86 jn_X1_boxes rfl rfl rfl (fun _ => rfl) rfl rfl (fun r6 M7 Nz8 h => ?_)
        obtain ⟨rfl, h⟩ := h
        refine j_aload_n o dX1_lowestNext_28 rfl ?_
        refine j_getf o (g := 5) (slot := 4) (ci := 1) (v := .ref (P.1 25)) rfl jin_X1 (by decide) rfl jf_X1_39 (fun _ => rfl) rfl dX1_lowestNext_29 ?_
        refine j_iload_n o dX1_lowestNext_32 rfl ?_
        refine j_iconst o (v := 1) dX1_lowestNext_33 rfl ?_
        refine j_iload_n o dX1_lowestNext_34 rfl ?_
        refine j_ishl o dX1_lowestNext_35 ?_
        refine j_ior o dX1_lowestNext_36 ?_
        obtain ⟨hb9, h⟩ := h
        refine j_iald o (g := 25) (fun _ => rfl) hb9 dX1_lowestNext_37 ?_
        refine j_iadd o dX1_lowestNext_38 ?_
        refine j_aload_n o dX1_lowestNext_39 rfl ?_
        refine j_getf o (g := 5) (slot := 4) (ci := 1) (v := .ref (P.1 25)) rfl jin_X1 (by decide) rfl jf_X1_39 (fun _ => rfl) rfl dX1_lowestNext_40 ?_
        refine j_iload_n o dX1_lowestNext_43 rfl ?_
        obtain ⟨hb10, h⟩ := h
        refine j_iald o (g := 25) (fun _ => rfl) hb10 dX1_lowestNext_44 ?_
        refine j_icmp_ne o (tgt := 50) dX1_lowestNext_45 (by decide) (fun c11 => ?_) (fun c11 => ?_)
        · replace h := h.1 c11
          exact j_pick [0, 1, 2, 3] rfl h
        · replace h := h.2 c11
          refine j_iload_n o dX1_lowestNext_48 rfl ?_
          rw [hE]
          exact j_iret o dX1_lowestNext_49 ⟨_, rfl, rfl, rfl, h⟩)
  exact j_pick [1, 2, 3, 0] rfl h

abbrev rm_X1_findLeast : Room := { frames := 3, cells := 0, slots := 0, locals := 77 }
def w_X1_findLeast (P : jP) (a1 : Nat) (M : jM) (Q : jM → Prop) : Prop :=
  cLw P a1 = true ∧
  ((M a1 5) = (-1) → (
   vp_in (M 2 1) (P.2.2 1) ∧
   ∀ R32 : Int32 → jM → Prop, (∀ (x4 : Int32) (M5 : jM), (
    (x4 < 0 → (
     ∀ R61 : Int32 → Int32 → Int32 → jM → Prop, (∀ (x7 : Int32) (x8 : Int32) (x9 : Int32) (M10 : jM), (
      ((M10 2 0) ≤ x9 → (
       vp_in 0 (P.2.2 1) ∧
       cLw P a1 = true ∧
       ∀ M14 : jM, M14 = upM M10 a1 5 (M10 25 (0 : Int32).toNatClampNeg) →
       cLw P a1 = true ∧
       Q (upM M14 a1 6 x7)
      )) ∧ (¬ (M10 2 0) ≤ x9 → (
       w_X1_lowestNext P a1 x8 M10 (fun r16 M17 =>
       R61 ((x7 * (M17 2 0)) + r16) (x8 ||| ((1 : Int32) <<< (r16 &&& 31))) (x9 + 1) M17)
      ))
     ) → R61 x7 x8 x9 M10) →
     R61 0 0 0 M5
    )) ∧ (¬ x4 < 0 → (
     w_X1_fewest P a1 x4 M5 (fun r19 M20 =>
     vp_in x4 (P.2.2 1) ∧
     R32 (x4 + (-1)) (upM M20 25 x4.toNatClampNeg r19))
    ))
   ) → R32 x4 M5) →
   R32 (((upM M 25 (M 2 1).toNatClampNeg 0) 2 1) - 1) (upM M 25 (M 2 1).toNatClampNeg 0)
  )) ∧ (¬ (M a1 5) = (-1) → (
   Q M
  ))
set_option maxRecDepth 20000 in
theorem c_X1_findLeast (l : Launch) (P : jP) (a1 : Nat) (M : jM) (N : jN) (Q : jM → Prop) (h : w_X1_findLeast P a1 M Q) : jC l yX1_findLeast cX1_findLeast 6 none rm_X1_findLeast LC [.ref (P.1 5), .ref (P.1 a1)] P M N (jqv P (fun M' N' => N = N' ∧ Q M' )) := by
  refine jC_of (by decide +kernel) [(0, .ref (P.1 5)), (1, .ref (P.1 a1))] (Nat.le_of_ble_eq_true rfl) rfl (fun X o => ?_)
  obtain ⟨E, hE⟩ : ∃ E, E = jE X rm_X1_findLeast (jqv P (fun M' N' => N = N' ∧ Q M' )) := ⟨_, rfl⟩
  rw [← hE]
  unfold w_X1_findLeast at h
  refine j_aload_n o dX1_findLeast_0 rfl ?_
  obtain ⟨hb1, h⟩ := h
  refine j_getf o (g := a1) (slot := 5) (ci := 4) (v := .int (M a1 5)) rfl jin_X4 (by decide) rfl jf_X1_89 (fun tA => LC_lw hb1 tA _ _) rfl dX1_findLeast_1 ?_
  refine j_iconst o (v := (-1)) dX1_findLeast_4 rfl ?_
  refine j_icmp_eq o (tgt := 9) dX1_findLeast_5 (by decide) (fun c2 => ?_) (fun c2 => ?_)
  · replace h := h.1 c2
    refine j_aload_n o dX1_findLeast_9 rfl ?_
    refine j_getf o (g := 5) (slot := 4) (ci := 1) (v := .ref (P.1 25)) rfl jin_X1 (by decide) rfl jf_X1_39 (fun _ => rfl) rfl dX1_findLeast_10 ?_
    refine j_aload_n o dX1_findLeast_13 rfl ?_
    refine j_getf o (g := 5) (slot := 0) (ci := 1) (v := .ref (P.1 2)) rfl jin_X1 (by decide) rfl jf_X1_9 (fun _ => rfl) rfl dX1_findLeast_14 ?_
    refine j_getf o (g := 2) (slot := 1) (ci := 3) (v := .int (M 2 1)) rfl jin_X3 (by decide) rfl jf_X1_48 (fun _ => rfl) rfl dX1_findLeast_17 ?_
    refine j_iconst o (v := 0) dX1_findLeast_20 rfl ?_
    obtain ⟨hb3, h⟩ := h
    refine j_iast o (g := 25) (fun _ _ _ => rfl) hb3 dX1_findLeast_21 ?_
    refine j_aload_n o dX1_findLeast_22 rfl ?_
    refine j_getf o (g := 5) (slot := 0) (ci := 1) (v := .ref (P.1 2)) rfl jin_X1 (by decide) rfl jf_X1_9 (fun _ => rfl) rfl dX1_findLeast_23 ?_
    refine j_getf o (g := 2) (slot := 1) (ci := 3) (v := .int ((upM M 25 (M 2 1).toNatClampNeg 0) 2 1)) rfl jin_X3 (by decide) rfl jf_X1_48 (fun _ => rfl) rfl dX1_findLeast_26 ?_
    refine j_iconst o (v := 1) dX1_findLeast_29 rfl ?_
    refine j_isub o dX1_findLeast_30 ?_
    refine j_istore_n o [(2, .int (((upM M 25 (M 2 1).toNatClampNeg 0) 2 1) - 1)), (0, .ref (P.1 5)), (1, .ref (P.1 a1))] dX1_findLeast_31 (by decide) rfl ?_
    replace h := h (fun (x4 : Int32) (M5 : jM) => J X P M5 N 0 0 E 6 32 [(0, .ref (P.1 5)), (1, .ref (P.1 a1)), (2, .int x4)] []) (by
      intro x4 M5 h
      refine j_iload_n o dX1_findLeast_32 rfl ?_
      refine j_if_lt o (tgt := 54) dX1_findLeast_33 (by decide) (fun c6 => ?_) (fun c6 => ?_)
      · replace h := h.1 c6
        refine j_iconst o (v := 0) dX1_findLeast_54 rfl ?_
        refine j_istore_n o [(2, .int 0), (0, .ref (P.1 5)), (1, .ref (P.1 a1))] dX1_findLeast_55 (by decide) rfl ?_
        refine j_iconst o (v := 0) dX1_findLeast_56 rfl ?_
        refine j_istore_n o [(3, .int 0), (2, .int 0), (0, .ref (P.1 5)), (1, .ref (P.1 a1))] dX1_findLeast_57 (by decide) rfl ?_
        refine j_iconst o (v := 0) dX1_findLeast_58 rfl ?_
        refine j_istore o [(4, .int 0), (3, .int 0), (2, .int 0), (0, .ref (P.1 5)), (1, .ref (P.1 a1))] dX1_findLeast_59 (by decide) rfl ?_
        replace h := h (fun (x7 : Int32) (x8 : Int32) (x9 : Int32) (M10 : jM) => J X P M10 N 0 0 E 6 61 [(0, .ref (P.1 5)), (1, .ref (P.1 a1)), (2, .int x7), (3, .int x8), (4, .int x9)] []) (by
          intro x7 x8 x9 M10 h
          refine j_iload o dX1_findLeast_61 rfl ?_
          refine j_aload_n o dX1_findLeast_63 rfl ?_
          refine j_getf o (g := 5) (slot := 0) (ci := 1) (v := .ref (P.1 2)) rfl jin_X1 (by decide) rfl jf_X1_9 (fun _ => rfl) rfl dX1_findLeast_64 ?_
          refine j_getf o (g := 2) (slot := 0) (ci := 3) (v := .int (M10 2 0)) rfl jin_X3 (by decide) rfl jf_X1_42 (fun _ => rfl) rfl dX1_findLeast_67 ?_
          refine j_icmp_ge o (tgt := 107) dX1_findLeast_70 (by decide) (fun c11 => ?_) (fun c11 => ?_)
          · replace h := h.1 c11
            refine j_aload_n o dX1_findLeast_107 rfl ?_
            refine j_aload_n o dX1_findLeast_108 rfl ?_
            refine j_getf o (g := 5) (slot := 4) (ci := 1) (v := .ref (P.1 25)) rfl jin_X1 (by decide) rfl jf_X1_39 (fun _ => rfl) rfl dX1_findLeast_109 ?_
            refine j_iconst o (v := 0) dX1_findLeast_112 rfl ?_
            obtain ⟨hb12, h⟩ := h
            refine j_iald o (g := 25) (fun _ => rfl) hb12 dX1_findLeast_113 ?_
            obtain ⟨hb13, h⟩ := h
            refine j_putf o (M1 := upM M10 a1 5 (M10 25 (0 : Int32).toNatClampNeg)) (N1 := N) (g := a1) (slot := 5) (ci := 4) (ty := .int) rfl jin_X4 tyX4_ok nmX4 (by decide) rfl rfl jf_X1_89 (by decide +kernel) rfl rfl (Nat.le_of_ble_eq_true rfl) (fun tA => LC_lw hb13 tA _ _) (fun tA => (LC_lw hb13 tA _ _).trans (by rw [upM_same] <;> rfl)) (fun _ hj => upM_ne _ _ _ hj) (fun _ _ => rfl) dX1_findLeast_114 ?_
            refine j_nameM (fun M14 hM14 => ?_)
            replace h := h M14 hM14
            refine j_aload_n o dX1_findLeast_117 rfl ?_
            refine j_iload_n o dX1_findLeast_118 rfl ?_
            obtain ⟨hb15, h⟩ := h
            refine j_putf o (M1 := upM M14 a1 6 x7) (N1 := N) (g := a1) (slot := 6) (ci := 4) (ty := .int) rfl jin_X4 tyX4_ok nmX4 (by decide) rfl rfl jf_X1_99 (by decide +kernel) rfl rfl (Nat.le_of_ble_eq_true rfl) (fun tA => LC_lw hb15 tA _ _) (fun tA => (LC_lw hb15 tA _ _).trans (by rw [upM_same] <;> rfl)) (fun _ hj => upM_ne _ _ _ hj) (fun _ _ => rfl) dX1_findLeast_119 ?_
            rw [hE]
            exact j_vret o dX1_findLeast_122 ⟨rfl, rfl, rfl, h⟩
          · replace h := h.2 c11
            refine j_aload_n o dX1_findLeast_73 rfl ?_
            refine j_aload_n o dX1_findLeast_74 rfl ?_
            refine j_iload_n o dX1_findLeast_75 rfl ?_
            refine j_callVi (g := 5) (ci := 1) o (c_X1_lowestNext l P a1 x8 M10 N _ h) dX1_findLeast_76 jc_X1_96 jn_X1_lowestNext rfl rfl rfl (fun _ => rfl) rfl rfl (fun r16 M17 Nz18 h => ?_)
            obtain ⟨rfl, h⟩ := h
            refine j_istore o [(5, .int r16), (0, .ref (P.1 5)), (1, .ref (P.1 a1)), (2, .int x7), (3, .int x8), (4, .int x9)] dX1_findLeast_79 (by decide) rfl ?_
            refine j_iload_n o dX1_findLeast_81 rfl ?_
            refine j_aload_n o dX1_findLeast_82 rfl ?_
            refine j_getf o (g := 5) (slot := 0) (ci := 1) (v := .ref (P.1 2)) rfl jin_X1 (by decide) rfl jf_X1_9 (fun _ => rfl) rfl dX1_findLeast_83 ?_
            refine j_getf o (g := 2) (slot := 0) (ci := 3) (v := .int (M17 2 0)) rfl jin_X3 (by decide) rfl jf_X1_42 (fun _ => rfl) rfl dX1_findLeast_86 ?_
            refine j_imul o dX1_findLeast_89 ?_
            refine j_iload o dX1_findLeast_90 rfl ?_
            refine j_iadd o dX1_findLeast_92 ?_
            refine j_istore_n o [(2, .int ((x7 * (M17 2 0)) + r16)), (5, .int r16), (0, .ref (P.1 5)), (1, .ref (P.1 a1)), (3, .int x8), (4, .int x9)] dX1_findLeast_93 (by decide) rfl ?_
            refine j_iload_n o dX1_findLeast_94 rfl ?_
            refine j_iconst o (v := 1) dX1_findLeast_95 rfl ?_
            refine j_iload o dX1_findLeast_96 rfl ?_
            refine j_ishl o dX1_findLeast_98 ?_
            refine j_ior o dX1_findLeast_99 ?_
            refine j_istore_n o [(3, .int (x8 ||| ((1 : Int32) <<< (r16 &&& 31)))), (2, .int ((x7 * (M17 2 0)) + r16)), (5, .int r16), (0, .ref (P.1 5)), (1, .ref (P.1 a1)), (4, .int x9)] dX1_findLeast_100 (by decide) rfl ?_
            refine j_iinc o (v := x9 + 1) [(4, .int (x9 + 1)), (3, .int (x8 ||| ((1 : Int32) <<< (r16 &&& 31)))), (2, .int ((x7 * (M17 2 0)) + r16)), (5, .int r16), (0, .ref (P.1 5)), (1, .ref (P.1 a1))] dX1_findLeast_101 rfl rfl (by decide) rfl ?_
            refine j_goto o (tgt := 61) dX1_findLeast_104 (by decide) ?_
            exact j_pick [4, 5, 2, 1, 0] rfl h)
        exact j_pick [3, 4, 2, 1, 0] rfl h
      · replace h := h.2 c6
        refine j_aload_n o dX1_findLeast_36 rfl ?_
        refine j_getf o (g := 5) (slot := 4) (ci := 1) (v := .ref (P.1 25)) rfl jin_X1 (by decide) rfl jf_X1_39 (fun _ => rfl) rfl dX1_findLeast_37 ?_
        refine j_iload_n o dX1_findLeast_40 rfl ?_
        refine j_aload_n o dX1_findLeast_41 rfl ?_
        refine j_aload_n o dX1_findLeast_42 rfl ?_
        refine j_iload_n o dX1_findLeast_43 rfl ?_
        refine j_callVi (g := 5) (ci := 1) o (c_X1_fewest l P a1 x4 M5 N _ h) dX1_findLeast_44 jc_X1_92 jn_X1_fewest rfl rfl rfl (fun _ => rfl) rfl rfl (fun r19 M20 Nz21 h => ?_)
        obtain ⟨rfl, h⟩ := h
        obtain ⟨hb22, h⟩ := h
        refine j_iast o (g := 25) (fun _ _ _ => rfl) hb22 dX1_findLeast_47 ?_
        refine j_iinc o (v := x4 + (-1)) [(2, .int (x4 + (-1))), (0, .ref (P.1 5)), (1, .ref (P.1 a1))] dX1_findLeast_48 rfl rfl (by decide) rfl ?_
        refine j_goto o (tgt := 32) dX1_findLeast_51 (by decide) ?_
        exact j_pick [1, 2, 0] rfl h)
    exact j_pick [1, 2, 0] rfl h
  · replace h := h.2 c2
    rw [hE]
    exact j_vret o dX1_findLeast_8 ⟨rfl, rfl, rfl, h⟩

abbrev rm_X2_targetOn : Room := { frames := 0, cells := 0, slots := 0, locals := 0 }
def w_X2_targetOn (P : jP) (g : Nat) (a1 : Int32) (a2 : Int32) (M : jM) (Q : Int32 → Prop) : Prop :=
  cFm P g = true ∧
  jin P (g + 1) a1 ∧
  (((a2 >>> ((M (g + 1) a1.toNatClampNeg) &&& 31)) &&& 1) = 0 → (
   cFm P g = true ∧
   jin P (g + 3) a1 ∧
   Q (M (g + 3) a1.toNatClampNeg)
  )) ∧ (¬ ((a2 >>> ((M (g + 1) a1.toNatClampNeg) &&& 31)) &&& 1) = 0 → (
   cFm P g = true ∧
   jin P (g + 2) a1 ∧
   Q (M (g + 2) a1.toNatClampNeg)
  ))
set_option maxRecDepth 20000 in
theorem c_X2_targetOn (l : Launch) (P : jP) (g : Nat) (a1 : Int32) (a2 : Int32) (M : jM) (N : jN) (Q : Int32 → Prop) (h : w_X2_targetOn P g a1 a2 M Q) : jC l yX2_targetOn cX2_targetOn 3 (some .int) rm_X2_targetOn LC [.ref (P.1 g), .int a1, .int a2] P M N (jqi P (fun r M' N' => M = M' ∧ N = N' ∧ Q r )) := by
  refine jC_of (by decide +kernel) [(0, .ref (P.1 g)), (1, .int a1), (2, .int a2)] (Nat.le_of_ble_eq_true rfl) rfl (fun X o => ?_)
  obtain ⟨E, hE⟩ : ∃ E, E = jE X rm_X2_targetOn (jqi P (fun r M' N' => M = M' ∧ N = N' ∧ Q r )) := ⟨_, rfl⟩
  rw [← hE]
  unfold w_X2_targetOn at h
  refine j_iload_n o dX2_targetOn_0 rfl ?_
  refine j_aload_n o dX2_targetOn_1 rfl ?_
  obtain ⟨hb1, h⟩ := h
  refine j_getf o (g := g) (slot := 1) (ci := 2) (v := .ref (P.1 (g + 1))) rfl jin_X2 (by decide) rfl jf_X2_9 (fun tA => LC_fm hb1 tA _ _) rfl dX2_targetOn_2 ?_
  refine j_iload_n o dX2_targetOn_5 rfl ?_
  obtain ⟨hb2, h⟩ := h
  obtain ⟨nnhb2, hchb2, hihb2⟩ := hb2
  refine j_iald o (g := g + 1) (fun tA => LC_ia hchb2 tA _ _) hihb2 dX2_targetOn_6 ?_
  refine j_ishr o dX2_targetOn_7 ?_
  refine j_iconst o (v := 1) dX2_targetOn_8 rfl ?_
  refine j_iand o dX2_targetOn_9 ?_
  refine j_if_eq o (tgt := 22) dX2_targetOn_10 (by decide) (fun c3 => ?_) (fun c3 => ?_)
  · replace h := h.1 c3
    refine j_aload_n o dX2_targetOn_22 rfl ?_
    obtain ⟨hb4, h⟩ := h
    refine j_getf o (g := g) (slot := 3) (ci := 2) (v := .ref (P.1 (g + 3))) rfl jin_X2 (by decide) rfl jf_X2_18 (fun tA => LC_fm hb4 tA _ _) rfl dX2_targetOn_23 ?_
    refine j_iload_n o dX2_targetOn_26 rfl ?_
    obtain ⟨hb5, h⟩ := h
    obtain ⟨nnhb5, hchb5, hihb5⟩ := hb5
    refine j_iald o (g := g + 3) (fun tA => LC_ia hchb5 tA _ _) hihb5 dX2_targetOn_27 ?_
    rw [hE]
    exact j_iret o dX2_targetOn_28 ⟨_, rfl, rfl, rfl, rfl, h⟩
  · replace h := h.2 c3
    refine j_aload_n o dX2_targetOn_13 rfl ?_
    obtain ⟨hb6, h⟩ := h
    refine j_getf o (g := g) (slot := 2) (ci := 2) (v := .ref (P.1 (g + 2))) rfl jin_X2 (by decide) rfl jf_X2_15 (fun tA => LC_fm hb6 tA _ _) rfl dX2_targetOn_14 ?_
    refine j_iload_n o dX2_targetOn_17 rfl ?_
    obtain ⟨hb7, h⟩ := h
    obtain ⟨nnhb7, hchb7, hihb7⟩ := hb7
    refine j_iald o (g := g + 2) (fun tA => LC_ia hchb7 tA _ _) hihb7 dX2_targetOn_18 ?_
    refine j_goto o (tgt := 28) dX2_targetOn_19 (by decide) ?_
    rw [hE]
    exact j_iret o dX2_targetOn_28 ⟨_, rfl, rfl, rfl, rfl, h⟩

abbrev rm_X2_lastOn : Room := { frames := 1, cells := 0, slots := 0, locals := 22 }
def w_X2_lastOn (P : jP) (g : Nat) (a1 : Int32) (M : jM) (Q : Int32 → Prop) : Prop :=
  ∀ R7 : Int32 → Int32 → Int32 → Prop, (∀ (x1 : Int32) (x2 : Int32) (x3 : Int32), (
   (12 ≤ x3 → (
    Q x1
   )) ∧ (¬ 12 ≤ x3 → (
    cFm P g = true ∧
    ((M g 0) ≤ x2 → (
     Q x1
    )) ∧ (¬ (M g 0) ≤ x2 → (
     cFm P g = true ∧
     w_X2_targetOn P g x2 a1 M (fun r7 =>
     R7 x2 r7 (x3 + 1))
    ))
   ))
  ) → R7 x1 x2 x3) →
  R7 0 0 0
set_option maxRecDepth 20000 in
theorem c_X2_lastOn (l : Launch) (P : jP) (g : Nat) (a1 : Int32) (M : jM) (N : jN) (Q : Int32 → Prop) (h : w_X2_lastOn P g a1 M Q) : jC l yX2_lastOn cX2_lastOn 5 (some .int) rm_X2_lastOn LC [.ref (P.1 g), .int a1] P M N (jqi P (fun r M' N' => M = M' ∧ N = N' ∧ Q r )) := by
  refine jC_of (by decide +kernel) [(0, .ref (P.1 g)), (1, .int a1)] (Nat.le_of_ble_eq_true rfl) rfl (fun X o => ?_)
  obtain ⟨E, hE⟩ : ∃ E, E = jE X rm_X2_lastOn (jqi P (fun r M' N' => M = M' ∧ N = N' ∧ Q r )) := ⟨_, rfl⟩
  rw [← hE]
  unfold w_X2_lastOn at h
  refine j_iconst o (v := 0) dX2_lastOn_0 rfl ?_
  refine j_istore_n o [(2, .int 0), (0, .ref (P.1 g)), (1, .int a1)] dX2_lastOn_1 (by decide) rfl ?_
  refine j_iconst o (v := 0) dX2_lastOn_2 rfl ?_
  refine j_istore_n o [(3, .int 0), (2, .int 0), (0, .ref (P.1 g)), (1, .int a1)] dX2_lastOn_3 (by decide) rfl ?_
  refine j_iconst o (v := 0) dX2_lastOn_4 rfl ?_
  refine j_istore o [(4, .int 0), (3, .int 0), (2, .int 0), (0, .ref (P.1 g)), (1, .int a1)] dX2_lastOn_5 (by decide) rfl ?_
  replace h := h (fun (x1 : Int32) (x2 : Int32) (x3 : Int32) => J X P M N 0 0 E 5 7 [(0, .ref (P.1 g)), (1, .int a1), (2, .int x1), (3, .int x2), (4, .int x3)] []) (by
    intro x1 x2 x3 h
    refine j_iload o dX2_lastOn_7 rfl ?_
    refine j_bipush o (v := 12) dX2_lastOn_9 rfl ?_
    refine j_icmp_ge o (tgt := 37) dX2_lastOn_11 (by decide) (fun c4 => ?_) (fun c4 => ?_)
    · replace h := h.1 c4
      refine j_iload_n o dX2_lastOn_37 rfl ?_
      rw [hE]
      exact j_iret o dX2_lastOn_38 ⟨_, rfl, rfl, rfl, rfl, h⟩
    · replace h := h.2 c4
      refine j_iload_n o dX2_lastOn_14 rfl ?_
      refine j_aload_n o dX2_lastOn_15 rfl ?_
      obtain ⟨hb5, h⟩ := h
      refine j_getf o (g := g) (slot := 0) (ci := 2) (v := .int (M g 0)) rfl jin_X2 (by decide) rfl jf_X2_21 (fun tA => LC_fm hb5 tA _ _) rfl dX2_lastOn_16 ?_
      refine j_icmp_ge o (tgt := 37) dX2_lastOn_19 (by decide) (fun c6 => ?_) (fun c6 => ?_)
      · replace h := h.1 c6
        refine j_iload_n o dX2_lastOn_37 rfl ?_
        rw [hE]
        exact j_iret o dX2_lastOn_38 ⟨_, rfl, rfl, rfl, rfl, h⟩
      · replace h := h.2 c6
        refine j_iload_n o dX2_lastOn_22 rfl ?_
        refine j_istore_n o [(2, .int x2), (0, .ref (P.1 g)), (1, .int a1), (3, .int x2), (4, .int x3)] dX2_lastOn_23 (by decide) rfl ?_
        refine j_aload_n o dX2_lastOn_24 rfl ?_
        refine j_iload_n o dX2_lastOn_25 rfl ?_
        refine j_iload_n o dX2_lastOn_26 rfl ?_
        obtain ⟨hb10, h⟩ := h
        refine j_callVi (g := g) (ci := 2) o (c_X2_targetOn l P g x2 a1 M N _ h) dX2_lastOn_27 jc_X2_25 jn_X2_targetOn rfl rfl rfl (fun tA => LC_fm hb10 tA _ _) rfl rfl (fun r7 Mz8 Nz9 h => ?_)
        obtain ⟨rfl, rfl, h⟩ := h
        refine j_istore_n o [(3, .int r7), (2, .int x2), (0, .ref (P.1 g)), (1, .int a1), (4, .int x3)] dX2_lastOn_30 (by decide) rfl ?_
        refine j_iinc o (v := x3 + 1) [(4, .int (x3 + 1)), (3, .int r7), (2, .int x2), (0, .ref (P.1 g)), (1, .int a1)] dX2_lastOn_31 rfl rfl (by decide) rfl ?_
        refine j_goto o (tgt := 7) dX2_lastOn_34 (by decide) ?_
        exact j_pick [3, 4, 2, 1, 0] rfl h)
  exact j_pick [3, 4, 2, 1, 0] rfl h

abbrev rm_X2_outcomeOn : Room := { frames := 2, cells := 0, slots := 0, locals := 46 }
def w_X2_outcomeOn (P : jP) (g : Nat) (a1 : Int32) (M : jM) (Q : Int32 → Prop) : Prop :=
  cFm P g = true ∧
  w_X2_lastOn P g a1 M (fun r1 =>
  cFm P g = true ∧
  w_X2_targetOn P g r1 a1 M (fun r5 =>
  Q (r5 - 13)))
set_option maxRecDepth 20000 in
theorem c_X2_outcomeOn (l : Launch) (P : jP) (g : Nat) (a1 : Int32) (M : jM) (N : jN) (Q : Int32 → Prop) (h : w_X2_outcomeOn P g a1 M Q) : jC l yX2_outcomeOn cX2_outcomeOn 2 (some .int) rm_X2_outcomeOn LC [.ref (P.1 g), .int a1] P M N (jqi P (fun r M' N' => M = M' ∧ N = N' ∧ Q r )) := by
  refine jC_of (by decide +kernel) [(0, .ref (P.1 g)), (1, .int a1)] (Nat.le_of_ble_eq_true rfl) rfl (fun X o => ?_)
  obtain ⟨E, hE⟩ : ∃ E, E = jE X rm_X2_outcomeOn (jqi P (fun r M' N' => M = M' ∧ N = N' ∧ Q r )) := ⟨_, rfl⟩
  rw [← hE]
  unfold w_X2_outcomeOn at h
  refine j_aload_n o dX2_outcomeOn_0 rfl ?_
  refine j_aload_n o dX2_outcomeOn_1 rfl ?_
  refine j_iload_n o dX2_outcomeOn_2 rfl ?_
  obtain ⟨hb4, h⟩ := h
  refine j_callVi (g := g) (ci := 2) o (c_X2_lastOn l P g a1 M N _ h) dX2_outcomeOn_3 jc_X2_29 jn_X2_lastOn rfl rfl rfl (fun tA => LC_fm hb4 tA _ _) rfl rfl (fun r1 Mz2 Nz3 h => ?_)
  obtain ⟨rfl, rfl, h⟩ := h
  refine j_iload_n o dX2_outcomeOn_6 rfl ?_
  obtain ⟨hb8, h⟩ := h
  refine j_callVi (g := g) (ci := 2) o (c_X2_targetOn l P g r1 a1 M N _ h) dX2_outcomeOn_7 jc_X2_25 jn_X2_targetOn rfl rfl rfl (fun tA => LC_fm hb8 tA _ _) rfl rfl (fun r5 Mz6 Nz7 h => ?_)
  obtain ⟨rfl, rfl, h⟩ := h
  refine j_bipush o (v := 13) dX2_outcomeOn_10 rfl ?_
  refine j_isub o dX2_outcomeOn_12 ?_
  rw [hE]
  exact j_iret o dX2_outcomeOn_13 ⟨_, rfl, rfl, rfl, rfl, h⟩

abbrev rm_X2_nodesOn : Room := { frames := 1, cells := 0, slots := 0, locals := 22 }
def w_X2_nodesOn (P : jP) (g : Nat) (a1 : Int32) (M : jM) (Q : Int32 → Prop) : Prop :=
  ∀ R7 : Int32 → Int32 → Int32 → Prop, (∀ (x1 : Int32) (x2 : Int32) (x3 : Int32), (
   (12 ≤ x3 → (
    Q x1
   )) ∧ (¬ 12 ≤ x3 → (
    cFm P g = true ∧
    ((M g 0) ≤ x2 → (
     Q x1
    )) ∧ (¬ (M g 0) ≤ x2 → (
     cFm P g = true ∧
     w_X2_targetOn P g x2 a1 M (fun r7 =>
     R7 (x1 ||| ((1 : Int32) <<< (x2 &&& 31))) r7 (x3 + 1))
    ))
   ))
  ) → R7 x1 x2 x3) →
  R7 0 0 0
set_option maxRecDepth 20000 in
theorem c_X2_nodesOn (l : Launch) (P : jP) (g : Nat) (a1 : Int32) (M : jM) (N : jN) (Q : Int32 → Prop) (h : w_X2_nodesOn P g a1 M Q) : jC l yX2_nodesOn cX2_nodesOn 5 (some .int) rm_X2_nodesOn LC [.ref (P.1 g), .int a1] P M N (jqi P (fun r M' N' => M = M' ∧ N = N' ∧ Q r )) := by
  refine jC_of (by decide +kernel) [(0, .ref (P.1 g)), (1, .int a1)] (Nat.le_of_ble_eq_true rfl) rfl (fun X o => ?_)
  obtain ⟨E, hE⟩ : ∃ E, E = jE X rm_X2_nodesOn (jqi P (fun r M' N' => M = M' ∧ N = N' ∧ Q r )) := ⟨_, rfl⟩
  rw [← hE]
  unfold w_X2_nodesOn at h
  refine j_iconst o (v := 0) dX2_nodesOn_0 rfl ?_
  refine j_istore_n o [(2, .int 0), (0, .ref (P.1 g)), (1, .int a1)] dX2_nodesOn_1 (by decide) rfl ?_
  refine j_iconst o (v := 0) dX2_nodesOn_2 rfl ?_
  refine j_istore_n o [(3, .int 0), (2, .int 0), (0, .ref (P.1 g)), (1, .int a1)] dX2_nodesOn_3 (by decide) rfl ?_
  refine j_iconst o (v := 0) dX2_nodesOn_4 rfl ?_
  refine j_istore o [(4, .int 0), (3, .int 0), (2, .int 0), (0, .ref (P.1 g)), (1, .int a1)] dX2_nodesOn_5 (by decide) rfl ?_
  replace h := h (fun (x1 : Int32) (x2 : Int32) (x3 : Int32) => J X P M N 0 0 E 5 7 [(0, .ref (P.1 g)), (1, .int a1), (2, .int x1), (3, .int x2), (4, .int x3)] []) (by
    intro x1 x2 x3 h
    refine j_iload o dX2_nodesOn_7 rfl ?_
    refine j_bipush o (v := 12) dX2_nodesOn_9 rfl ?_
    refine j_icmp_ge o (tgt := 41) dX2_nodesOn_11 (by decide) (fun c4 => ?_) (fun c4 => ?_)
    · replace h := h.1 c4
      refine j_iload_n o dX2_nodesOn_41 rfl ?_
      rw [hE]
      exact j_iret o dX2_nodesOn_42 ⟨_, rfl, rfl, rfl, rfl, h⟩
    · replace h := h.2 c4
      refine j_iload_n o dX2_nodesOn_14 rfl ?_
      refine j_aload_n o dX2_nodesOn_15 rfl ?_
      obtain ⟨hb5, h⟩ := h
      refine j_getf o (g := g) (slot := 0) (ci := 2) (v := .int (M g 0)) rfl jin_X2 (by decide) rfl jf_X2_21 (fun tA => LC_fm hb5 tA _ _) rfl dX2_nodesOn_16 ?_
      refine j_icmp_ge o (tgt := 41) dX2_nodesOn_19 (by decide) (fun c6 => ?_) (fun c6 => ?_)
      · replace h := h.1 c6
        refine j_iload_n o dX2_nodesOn_41 rfl ?_
        rw [hE]
        exact j_iret o dX2_nodesOn_42 ⟨_, rfl, rfl, rfl, rfl, h⟩
      · replace h := h.2 c6
        refine j_iload_n o dX2_nodesOn_22 rfl ?_
        refine j_iconst o (v := 1) dX2_nodesOn_23 rfl ?_
        refine j_iload_n o dX2_nodesOn_24 rfl ?_
        refine j_ishl o dX2_nodesOn_25 ?_
        refine j_ior o dX2_nodesOn_26 ?_
        refine j_istore_n o [(2, .int (x1 ||| ((1 : Int32) <<< (x2 &&& 31)))), (0, .ref (P.1 g)), (1, .int a1), (3, .int x2), (4, .int x3)] dX2_nodesOn_27 (by decide) rfl ?_
        refine j_aload_n o dX2_nodesOn_28 rfl ?_
        refine j_iload_n o dX2_nodesOn_29 rfl ?_
        refine j_iload_n o dX2_nodesOn_30 rfl ?_
        obtain ⟨hb10, h⟩ := h
        refine j_callVi (g := g) (ci := 2) o (c_X2_targetOn l P g x2 a1 M N _ h) dX2_nodesOn_31 jc_X2_25 jn_X2_targetOn rfl rfl rfl (fun tA => LC_fm hb10 tA _ _) rfl rfl (fun r7 Mz8 Nz9 h => ?_)
        obtain ⟨rfl, rfl, h⟩ := h
        refine j_istore_n o [(3, .int r7), (2, .int (x1 ||| ((1 : Int32) <<< (x2 &&& 31)))), (0, .ref (P.1 g)), (1, .int a1), (4, .int x3)] dX2_nodesOn_34 (by decide) rfl ?_
        refine j_iinc o (v := x3 + 1) [(4, .int (x3 + 1)), (3, .int r7), (2, .int (x1 ||| ((1 : Int32) <<< (x2 &&& 31)))), (0, .ref (P.1 g)), (1, .int a1)] dX2_nodesOn_35 rfl rfl (by decide) rfl ?_
        refine j_goto o (tgt := 7) dX2_nodesOn_38 (by decide) ?_
        exact j_pick [3, 4, 2, 1, 0] rfl h)
  exact j_pick [3, 4, 2, 1, 0] rfl h
