abbrev rm_X12_unlike : Room := { frames := 2, cells := 0, slots := 0, locals := 46 }
def w_X12_unlike (P : jP) (a1 : Int32) (a2 : Int32) (M : jM) (Q : Int32 → jM → Prop) : Prop :=
  w_X12_isForm P a1 (upM M 1 0 0) (fun r1 =>
  (r1 = 0 → (
   Q (-1) (upM M 1 0 0)
  )) ∧ (¬ r1 = 0 → (
   w_X12_isForm P a2 (upM M 1 0 0) (fun r5 =>
   (¬ r5 = 0 → (
    ∀ R25 : Int32 → Prop, (∀ (x9 : Int32), (
     (((upM M 1 0 0) 1 2) ≤ x9 → (
      Q (-1) (upM M 1 0 0)
     )) ∧ (¬ ((upM M 1 0 0) 1 2) ≤ x9 → (
      w_X12_leadsOn P a1 x9 (upM M 1 0 0) (fun r11 =>
      w_X12_leadsOn P a2 x9 (upM M 1 0 0) (fun r14 =>
      (r11 = r14 → (
       R25 (x9 + 1)
      )) ∧ (¬ r11 = r14 → (
       Q x9 (upM M 1 0 0)
      ))))
     ))
    ) → R25 x9) →
    R25 0
   )) ∧ (r5 = 0 → (
    Q (-1) (upM M 1 0 0)
   )))
  )))
set_option maxRecDepth 20000 in
theorem c_X12_unlike (l : Launch) (P : jP) (a1 : Int32) (a2 : Int32) (M : jM) (N : jN) (Q : Int32 → jM → Prop) (h : w_X12_unlike P a1 a2 M Q) : jC l yX12_unlike cX12_unlike 4 (some .int) rm_X12_unlike LM [.ref (P.1 1), .int a1, .int a2] P M N (jqi P (fun r M' N' => N = N' ∧ Q r M' )) := by
  refine jC_of (by decide +kernel) [(0, .ref (P.1 1)), (1, .int a1), (2, .int a2)] (Nat.le_of_ble_eq_true rfl) rfl (fun X o => ?_)
  obtain ⟨E, hE⟩ : ∃ E, E = jE X rm_X12_unlike (jqi P (fun r M' N' => N = N' ∧ Q r M' )) := ⟨_, rfl⟩
  rw [← hE]
  unfold w_X12_unlike at h
  refine j_aload_n o dX12_unlike_0 rfl ?_
  refine j_iconst o (v := 0) dX12_unlike_1 rfl ?_
  refine j_putf o (M1 := upM M 1 0 0) (N1 := N) (g := 1) (slot := 0) (ci := 12) (ty := .int) rfl jin_X12 tyX12_ok nmX12 (by decide) rfl rfl jf_X12_114 (by decide +kernel) rfl rfl (Nat.le_of_ble_eq_true rfl) (fun _ => rfl) (fun _ => rfl) (fun _ hj => upM_ne _ _ _ hj) (fun _ _ => rfl) dX12_unlike_2 ?_
  refine j_aload_n o dX12_unlike_5 rfl ?_
  refine j_iload_n o dX12_unlike_6 rfl ?_
  refine j_callVi (g := 1) (ci := 12) o (c_X12_isForm l P a1 (upM M 1 0 0) N _ h) dX12_unlike_7 jc_X12_262 jn_X12_isForm rfl rfl rfl (fun _ => rfl) rfl rfl (fun r1 Mz2 Nz3 h => ?_)
  obtain ⟨rfl, rfl, h⟩ := h
  refine j_if_eq o (tgt := 21) dX12_unlike_10 (by decide) (fun c4 => ?_) (fun c4 => ?_)
  · replace h := h.1 c4
    refine j_iconst o (v := (-1)) dX12_unlike_21 rfl ?_
    rw [hE]
    exact j_iret o dX12_unlike_22 ⟨_, rfl, rfl, rfl, h⟩
  · replace h := h.2 c4
    refine j_aload_n o dX12_unlike_13 rfl ?_
    refine j_iload_n o dX12_unlike_14 rfl ?_
    refine j_callVi (g := 1) (ci := 12) o (c_X12_isForm l P a2 (upM M 1 0 0) N _ h) dX12_unlike_15 jc_X12_262 jn_X12_isForm rfl rfl rfl (fun _ => rfl) rfl rfl (fun r5 Mz6 Nz7 h => ?_)
    obtain ⟨rfl, rfl, h⟩ := h
    refine j_if_ne o (tgt := 23) dX12_unlike_18 (by decide) (fun c8 => ?_) (fun c8 => ?_)
    · replace h := h.1 c8
      refine j_iconst o (v := 0) dX12_unlike_23 rfl ?_
      refine j_istore_n o [(3, .int 0), (0, .ref (P.1 1)), (1, .int a1), (2, .int a2)] dX12_unlike_24 (by decide) rfl ?_
      replace h := h (fun (x9 : Int32) => J X P (upM M 1 0 0) N 0 0 E 4 25 [(0, .ref (P.1 1)), (1, .int a1), (2, .int a2), (3, .int x9)] []) (by
        intro x9 h
        refine j_iload_n o dX12_unlike_25 rfl ?_
        refine j_aload_n o dX12_unlike_26 rfl ?_
        refine j_getf o (g := 1) (slot := 2) (ci := 12) (v := .int ((upM M 1 0 0) 1 2)) rfl jin_X12 (by decide) rfl jf_X12_111 (fun _ => rfl) rfl dX12_unlike_27 ?_
        refine j_icmp_ge o (tgt := 56) dX12_unlike_30 (by decide) (fun c10 => ?_) (fun c10 => ?_)
        · replace h := h.1 c10
          refine j_iconst o (v := (-1)) dX12_unlike_56 rfl ?_
          rw [hE]
          exact j_iret o dX12_unlike_57 ⟨_, rfl, rfl, rfl, h⟩
        · replace h := h.2 c10
          refine j_aload_n o dX12_unlike_33 rfl ?_
          refine j_iload_n o dX12_unlike_34 rfl ?_
          refine j_iload_n o dX12_unlike_35 rfl ?_
          refine j_callVi (g := 1) (ci := 12) o (c_X12_leadsOn l P a1 x9 (upM M 1 0 0) N _ h) dX12_unlike_36 jc_X12_265 jn_X12_leadsOn rfl rfl rfl (fun _ => rfl) rfl rfl (fun r11 Mz12 Nz13 h => ?_)
          obtain ⟨rfl, rfl, h⟩ := h
          refine j_aload_n o dX12_unlike_39 rfl ?_
          refine j_iload_n o dX12_unlike_40 rfl ?_
          refine j_iload_n o dX12_unlike_41 rfl ?_
          refine j_callVi (g := 1) (ci := 12) o (c_X12_leadsOn l P a2 x9 (upM M 1 0 0) N _ h) dX12_unlike_42 jc_X12_265 jn_X12_leadsOn rfl rfl rfl (fun _ => rfl) rfl rfl (fun r14 Mz15 Nz16 h => ?_)
          obtain ⟨rfl, rfl, h⟩ := h
          refine j_icmp_eq o (tgt := 50) dX12_unlike_45 (by decide) (fun c17 => ?_) (fun c17 => ?_)
          · replace h := h.1 c17
            refine j_iinc o (v := x9 + 1) [(3, .int (x9 + 1)), (0, .ref (P.1 1)), (1, .int a1), (2, .int a2)] dX12_unlike_50 rfl rfl (by decide) rfl ?_
            refine j_goto o (tgt := 25) dX12_unlike_53 (by decide) ?_
            exact j_pick [1, 2, 3, 0] rfl h
          · replace h := h.2 c17
            refine j_iload_n o dX12_unlike_48 rfl ?_
            rw [hE]
            exact j_iret o dX12_unlike_49 ⟨_, rfl, rfl, rfl, h⟩)
      exact j_pick [1, 2, 3, 0] rfl h
    · replace h := h.2 c8
      refine j_iconst o (v := (-1)) dX12_unlike_21 rfl ?_
      rw [hE]
      exact j_iret o dX12_unlike_22 ⟨_, rfl, rfl, rfl, h⟩

abbrev rm_X12_comesTo : Room := { frames := 1, cells := 0, slots := 0, locals := 23 }
def w_X12_comesTo (P : jP) (a1 : Int32) (a2 : Int32) (M : jM) (Q : Int32 → Prop) : Prop :=
  ∀ R5 : Int32 → Int32 → Prop, (∀ (x1 : Int32) (x2 : Int32), (
   (12 ≤ x2 → (
    Q x1
   )) ∧ (¬ 12 ≤ x2 → (
    w_X12_factOf P a1 x2 M (fun r4 =>
    w_X12_has P a2 r4 (fun r7 =>
    w_X12_nextOf P a1 x2 r7 M (fun r10 =>
    R5 (x1 ||| ((1 : Int32) <<< (x2 &&& 31))) r10)))
   ))
  ) → R5 x1 x2) →
  R5 0 0
set_option maxRecDepth 20000 in
theorem c_X12_comesTo (l : Launch) (P : jP) (a1 : Int32) (a2 : Int32) (M : jM) (N : jN) (Q : Int32 → Prop) (h : w_X12_comesTo P a1 a2 M Q) : jC l yX12_comesTo cX12_comesTo 5 (some .int) rm_X12_comesTo LM [.ref (P.1 1), .int a1, .int a2] P M N (jqi P (fun r M' N' => M = M' ∧ N = N' ∧ Q r )) := by
  refine jC_of (by decide +kernel) [(0, .ref (P.1 1)), (1, .int a1), (2, .int a2)] (Nat.le_of_ble_eq_true rfl) rfl (fun X o => ?_)
  obtain ⟨E, hE⟩ : ∃ E, E = jE X rm_X12_comesTo (jqi P (fun r M' N' => M = M' ∧ N = N' ∧ Q r )) := ⟨_, rfl⟩
  rw [← hE]
  unfold w_X12_comesTo at h
  refine j_iconst o (v := 0) dX12_comesTo_0 rfl ?_
  refine j_istore_n o [(3, .int 0), (0, .ref (P.1 1)), (1, .int a1), (2, .int a2)] dX12_comesTo_1 (by decide) rfl ?_
  refine j_iconst o (v := 0) dX12_comesTo_2 rfl ?_
  refine j_istore o [(4, .int 0), (3, .int 0), (0, .ref (P.1 1)), (1, .int a1), (2, .int a2)] dX12_comesTo_3 (by decide) rfl ?_
  replace h := h (fun (x1 : Int32) (x2 : Int32) => J X P M N 0 0 E 5 5 [(0, .ref (P.1 1)), (1, .int a1), (2, .int a2), (3, .int x1), (4, .int x2)] []) (by
    intro x1 x2 h
    refine j_iload o dX12_comesTo_5 rfl ?_
    refine j_bipush o (v := 12) dX12_comesTo_7 rfl ?_
    refine j_icmp_ge o (tgt := 42) dX12_comesTo_9 (by decide) (fun c3 => ?_) (fun c3 => ?_)
    · replace h := h.1 c3
      refine j_iload_n o dX12_comesTo_42 rfl ?_
      rw [hE]
      exact j_iret o dX12_comesTo_43 ⟨_, rfl, rfl, rfl, rfl, h⟩
    · replace h := h.2 c3
      refine j_iload_n o dX12_comesTo_12 rfl ?_
      refine j_iconst o (v := 1) dX12_comesTo_13 rfl ?_
      refine j_iload o dX12_comesTo_14 rfl ?_
      refine j_ishl o dX12_comesTo_16 ?_
      refine j_ior o dX12_comesTo_17 ?_
      refine j_istore_n o [(3, .int (x1 ||| ((1 : Int32) <<< (x2 &&& 31)))), (0, .ref (P.1 1)), (1, .int a1), (2, .int a2), (4, .int x2)] dX12_comesTo_18 (by decide) rfl ?_
      refine j_aload_n o dX12_comesTo_19 rfl ?_
      refine j_iload_n o dX12_comesTo_20 rfl ?_
      refine j_iload o dX12_comesTo_21 rfl ?_
      refine j_iload_n o dX12_comesTo_23 rfl ?_
      refine j_aload_n o dX12_comesTo_24 rfl ?_
      refine j_iload_n o dX12_comesTo_25 rfl ?_
      refine j_iload o dX12_comesTo_26 rfl ?_
      refine j_callVi (g := 1) (ci := 12) o (c_X12_factOf l P a1 x2 M N _ h) dX12_comesTo_28 jc_X12_255 jn_X12_factOf rfl rfl rfl (fun _ => rfl) rfl rfl (fun r4 Mz5 Nz6 h => ?_)
      obtain ⟨rfl, rfl, h⟩ := h
      refine j_callSi o (c_X12_has l P a2 r4 M N _ h) dX12_comesTo_31 jc_X12_157 jn_X12_has rfl rfl rfl rfl (fun r7 Mz8 Nz9 h => ?_)
      obtain ⟨rfl, rfl, h⟩ := h
      refine j_callVi (g := 1) (ci := 12) o (c_X12_nextOf l P a1 x2 r7 M N _ h) dX12_comesTo_34 jc_X12_258 jn_X12_nextOf rfl rfl rfl (fun _ => rfl) rfl rfl (fun r10 Mz11 Nz12 h => ?_)
      obtain ⟨rfl, rfl, h⟩ := h
      refine j_istore o [(4, .int r10), (3, .int (x1 ||| ((1 : Int32) <<< (x2 &&& 31)))), (0, .ref (P.1 1)), (1, .int a1), (2, .int a2)] dX12_comesTo_37 (by decide) rfl ?_
      refine j_goto o (tgt := 5) dX12_comesTo_39 (by decide) ?_
      exact j_pick [2, 3, 4, 1, 0] rfl h)
  exact j_pick [2, 3, 4, 1, 0] rfl h

abbrev rm_J6_numberOfLeadingZeros_0f7a4 : Room := { frames := 0, cells := 0, slots := 0, locals := 0 }
def w_J6_numberOfLeadingZeros_0f7a4 (P : jP) (a1 : Int32) (Q : Int32 → Prop) : Prop :=
  (0 < a1 → (
   ∀ R33 : Int32 → Int32 → Prop, (∀ (x2 : Int32) (x3 : Int32), (
    ∀ R48 : Int32 → Int32 → Prop, (∀ (x4 : Int32) (x5 : Int32), (
     ∀ R61 : Int32 → Int32 → Prop, (∀ (x6 : Int32) (x7 : Int32), (
      ∀ R73 : Int32 → Int32 → Prop, (∀ (x8 : Int32) (x9 : Int32), (
       Q (x9 - (jushr x8 1))
      ) → R73 x8 x9) →
      (x6 < 4 → (
       R73 x6 x7
      )) ∧ (¬ x6 < 4 → (
       R73 (jushr x6 2) (x7 + (-2))
      ))
     ) → R61 x6 x7) →
     (x4 < 16 → (
      R61 x4 x5
     )) ∧ (¬ x4 < 16 → (
      R61 (jushr x4 4) (x5 + (-4))
     ))
    ) → R48 x4 x5) →
    (x2 < 256 → (
     R48 x2 x3
    )) ∧ (¬ x2 < 256 → (
     R48 (jushr x2 8) (x3 + (-8))
    ))
   ) → R33 x2 x3) →
   (a1 < 65536 → (
    R33 a1 31
   )) ∧ (¬ a1 < 65536 → (
    R33 (jushr a1 16) (31 + (-16))
   ))
  )) ∧ (¬ 0 < a1 → (
   (¬ a1 = 0 → (
    Q 0
   )) ∧ (a1 = 0 → (
    Q 32
   ))
  ))
set_option maxRecDepth 20000 in
theorem c_J6_numberOfLeadingZeros_0f7a4 {L0 : jL} (l : Launch) (P : jP) (a1 : Int32) (M : jM) (N : jN) (Q : Int32 → Prop) (h : w_J6_numberOfLeadingZeros_0f7a4 P a1 Q) : jC l yJ6_numberOfLeadingZeros_0f7a4 cJ6_numberOfLeadingZeros_0f7a4 2 (some .int) rm_J6_numberOfLeadingZeros_0f7a4 L0 [.int a1] P M N (jqi P (fun r M' N' => M = M' ∧ N = N' ∧ Q r )) := by
  refine jC_of (by decide +kernel) [(0, .int a1)] (Nat.le_of_ble_eq_true rfl) rfl (fun X o => ?_)
  obtain ⟨E, hE⟩ : ∃ E, E = jE X rm_J6_numberOfLeadingZeros_0f7a4 (jqi P (fun r M' N' => M = M' ∧ N = N' ∧ Q r )) := ⟨_, rfl⟩
  rw [← hE]
  unfold w_J6_numberOfLeadingZeros_0f7a4 at h
  refine j_iload_n o dJ6_numberOfLeadingZeros_0f7a4_0 rfl ?_
  refine j_if_gt o (tgt := 15) dJ6_numberOfLeadingZeros_0f7a4_1 (by decide) (fun c1 => ?_) (fun c1 => ?_)
  · replace h := h.1 c1
    refine j_bipush o (v := 31) dJ6_numberOfLeadingZeros_0f7a4_15 rfl ?_
    refine j_istore_n o [(1, .int 31), (0, .int a1)] dJ6_numberOfLeadingZeros_0f7a4_17 (by decide) rfl ?_
    refine j_iload_n o dJ6_numberOfLeadingZeros_0f7a4_18 rfl ?_
    refine j_ldc_w o jk_J6_264 dJ6_numberOfLeadingZeros_0f7a4_19 ?_
    replace h := h (fun (x2 : Int32) (x3 : Int32) => J X P M N 0 0 E 2 33 [(0, .int x2), (1, .int x3)] []) (by
      intro x2 x3 h
      refine j_iload_n o dJ6_numberOfLeadingZeros_0f7a4_33 rfl ?_
      refine j_sipush o (v := 256) dJ6_numberOfLeadingZeros_0f7a4_34 rfl ?_
      replace h := h (fun (x4 : Int32) (x5 : Int32) => J X P M N 0 0 E 2 48 [(0, .int x4), (1, .int x5)] []) (by
        intro x4 x5 h
        refine j_iload_n o dJ6_numberOfLeadingZeros_0f7a4_48 rfl ?_
        refine j_bipush o (v := 16) dJ6_numberOfLeadingZeros_0f7a4_49 rfl ?_
        replace h := h (fun (x6 : Int32) (x7 : Int32) => J X P M N 0 0 E 2 61 [(0, .int x6), (1, .int x7)] []) (by
          intro x6 x7 h
          refine j_iload_n o dJ6_numberOfLeadingZeros_0f7a4_61 rfl ?_
          refine j_iconst o (v := 4) dJ6_numberOfLeadingZeros_0f7a4_62 rfl ?_
          replace h := h (fun (x8 : Int32) (x9 : Int32) => J X P M N 0 0 E 2 73 [(0, .int x8), (1, .int x9)] []) (by
            intro x8 x9 h
            refine j_iload_n o dJ6_numberOfLeadingZeros_0f7a4_73 rfl ?_
            refine j_iload_n o dJ6_numberOfLeadingZeros_0f7a4_74 rfl ?_
            refine j_iconst o (v := 1) dJ6_numberOfLeadingZeros_0f7a4_75 rfl ?_
            refine j_iushr o dJ6_numberOfLeadingZeros_0f7a4_76 ?_
            refine j_isub o dJ6_numberOfLeadingZeros_0f7a4_77 ?_
            rw [hE]
            exact j_iret o dJ6_numberOfLeadingZeros_0f7a4_78 ⟨_, rfl, rfl, rfl, rfl, h⟩)
          refine j_icmp_lt o (tgt := 73) dJ6_numberOfLeadingZeros_0f7a4_63 (by decide) (fun c10 => ?_) (fun c10 => ?_)
          · replace h := h.1 c10
            exact j_pick [0, 1] rfl h
          · replace h := h.2 c10
            refine j_iinc o (v := x7 + (-2)) [(1, .int (x7 + (-2))), (0, .int x6)] dJ6_numberOfLeadingZeros_0f7a4_66 rfl rfl (by decide) rfl ?_
            refine j_iload_n o dJ6_numberOfLeadingZeros_0f7a4_69 rfl ?_
            refine j_iconst o (v := 2) dJ6_numberOfLeadingZeros_0f7a4_70 rfl ?_
            refine j_iushr o dJ6_numberOfLeadingZeros_0f7a4_71 ?_
            refine j_istore_n o [(0, .int (jushr x6 2)), (1, .int (x7 + (-2)))] dJ6_numberOfLeadingZeros_0f7a4_72 (by decide) rfl ?_
            exact j_pick [0, 1] rfl h)
        refine j_icmp_lt o (tgt := 61) dJ6_numberOfLeadingZeros_0f7a4_51 (by decide) (fun c11 => ?_) (fun c11 => ?_)
        · replace h := h.1 c11
          exact j_pick [0, 1] rfl h
        · replace h := h.2 c11
          refine j_iinc o (v := x5 + (-4)) [(1, .int (x5 + (-4))), (0, .int x4)] dJ6_numberOfLeadingZeros_0f7a4_54 rfl rfl (by decide) rfl ?_
          refine j_iload_n o dJ6_numberOfLeadingZeros_0f7a4_57 rfl ?_
          refine j_iconst o (v := 4) dJ6_numberOfLeadingZeros_0f7a4_58 rfl ?_
          refine j_iushr o dJ6_numberOfLeadingZeros_0f7a4_59 ?_
          refine j_istore_n o [(0, .int (jushr x4 4)), (1, .int (x5 + (-4)))] dJ6_numberOfLeadingZeros_0f7a4_60 (by decide) rfl ?_
          exact j_pick [0, 1] rfl h)
      refine j_icmp_lt o (tgt := 48) dJ6_numberOfLeadingZeros_0f7a4_37 (by decide) (fun c12 => ?_) (fun c12 => ?_)
      · replace h := h.1 c12
        exact j_pick [0, 1] rfl h
      · replace h := h.2 c12
        refine j_iinc o (v := x3 + (-8)) [(1, .int (x3 + (-8))), (0, .int x2)] dJ6_numberOfLeadingZeros_0f7a4_40 rfl rfl (by decide) rfl ?_
        refine j_iload_n o dJ6_numberOfLeadingZeros_0f7a4_43 rfl ?_
        refine j_bipush o (v := 8) dJ6_numberOfLeadingZeros_0f7a4_44 rfl ?_
        refine j_iushr o dJ6_numberOfLeadingZeros_0f7a4_46 ?_
        refine j_istore_n o [(0, .int (jushr x2 8)), (1, .int (x3 + (-8)))] dJ6_numberOfLeadingZeros_0f7a4_47 (by decide) rfl ?_
        exact j_pick [0, 1] rfl h)
    refine j_icmp_lt o (tgt := 33) dJ6_numberOfLeadingZeros_0f7a4_22 (by decide) (fun c13 => ?_) (fun c13 => ?_)
    · replace h := h.1 c13
      exact j_pick [1, 0] rfl h
    · replace h := h.2 c13
      refine j_iinc o (v := 31 + (-16)) [(1, .int (31 + (-16))), (0, .int a1)] dJ6_numberOfLeadingZeros_0f7a4_25 rfl rfl (by decide) rfl ?_
      refine j_iload_n o dJ6_numberOfLeadingZeros_0f7a4_28 rfl ?_
      refine j_bipush o (v := 16) dJ6_numberOfLeadingZeros_0f7a4_29 rfl ?_
      refine j_iushr o dJ6_numberOfLeadingZeros_0f7a4_31 ?_
      refine j_istore_n o [(0, .int (jushr a1 16)), (1, .int (31 + (-16)))] dJ6_numberOfLeadingZeros_0f7a4_32 (by decide) rfl ?_
      exact j_pick [0, 1] rfl h
  · replace h := h.2 c1
    refine j_iload_n o dJ6_numberOfLeadingZeros_0f7a4_4 rfl ?_
    refine j_if_ne o (tgt := 13) dJ6_numberOfLeadingZeros_0f7a4_5 (by decide) (fun c14 => ?_) (fun c14 => ?_)
    · replace h := h.1 c14
      refine j_iconst o (v := 0) dJ6_numberOfLeadingZeros_0f7a4_13 rfl ?_
      rw [hE]
      exact j_iret o dJ6_numberOfLeadingZeros_0f7a4_14 ⟨_, rfl, rfl, rfl, rfl, h⟩
    · replace h := h.2 c14
      refine j_bipush o (v := 32) dJ6_numberOfLeadingZeros_0f7a4_8 rfl ?_
      refine j_goto o (tgt := 14) dJ6_numberOfLeadingZeros_0f7a4_10 (by decide) ?_
      rw [hE]
      exact j_iret o dJ6_numberOfLeadingZeros_0f7a4_14 ⟨_, rfl, rfl, rfl, rfl, h⟩

abbrev rm_X12_spoiled : Room := { frames := 2, cells := 0, slots := 0, locals := 47 }
def w_X12_spoiled (P : jP) (a1 : Int32) (a2 : Int32) (M : jM) (Q : Int32 → jM → Prop) : Prop :=
  w_X12_isForm P a1 (upM M 1 0 0) (fun r1 =>
  (r1 = 0 → (
   Q (-1) (upM M 1 0 0)
  )) ∧ (¬ r1 = 0 → (
   w_X12_isLaw P a2 (upM M 1 0 0) (fun r5 =>
   (¬ r5 = 0 → (
    ∀ R28 : Int32 → Int32 → Prop, (∀ (x9 : Int32) (x10 : Int32), (
     (((upM M 1 0 0) 1 2) ≤ x10 → (
      Q x9 (upM M 1 0 0)
     )) ∧ (¬ ((upM M 1 0 0) 1 2) ≤ x10 → (
      w_X12_comesTo P a1 x10 (upM M 1 0 0) (fun r12 =>
      w_J6_numberOfLeadingZeros_0f7a4 P r12 (fun r15 =>
      w_X12_leadsOn P a1 x10 (upM M 1 0 0) (fun r18 =>
      w_X12_saidOn P a2 x10 (upM M 1 0 0) (fun r21 =>
      ∀ R78 : Int32 → Prop, (∀ (x24 : Int32), (
       R28 (x9 ||| x24) (x10 + 1)
      ) → R78 x24) →
      (r18 = r21 → (
       R78 0
      )) ∧ (¬ r18 = r21 → (
       R78 ((1 : Int32) <<< ((31 - r15) &&& 31))
      ))))))
     ))
    ) → R28 x9 x10) →
    R28 0 0
   )) ∧ (r5 = 0 → (
    Q (-1) (upM M 1 0 0)
   )))
  )))
set_option maxRecDepth 20000 in
theorem c_X12_spoiled (l : Launch) (P : jP) (a1 : Int32) (a2 : Int32) (M : jM) (N : jN) (Q : Int32 → jM → Prop) (h : w_X12_spoiled P a1 a2 M Q) : jC l yX12_spoiled cX12_spoiled 6 (some .int) rm_X12_spoiled LM [.ref (P.1 1), .int a1, .int a2] P M N (jqi P (fun r M' N' => N = N' ∧ Q r M' )) := by
  refine jC_of (by decide +kernel) [(0, .ref (P.1 1)), (1, .int a1), (2, .int a2)] (Nat.le_of_ble_eq_true rfl) rfl (fun X o => ?_)
  obtain ⟨E, hE⟩ : ∃ E, E = jE X rm_X12_spoiled (jqi P (fun r M' N' => N = N' ∧ Q r M' )) := ⟨_, rfl⟩
  rw [← hE]
  unfold w_X12_spoiled at h
  refine j_aload_n o dX12_spoiled_0 rfl ?_
  refine j_iconst o (v := 0) dX12_spoiled_1 rfl ?_
  refine j_putf o (M1 := upM M 1 0 0) (N1 := N) (g := 1) (slot := 0) (ci := 12) (ty := .int) rfl jin_X12 tyX12_ok nmX12 (by decide) rfl rfl jf_X12_114 (by decide +kernel) rfl rfl (Nat.le_of_ble_eq_true rfl) (fun _ => rfl) (fun _ => rfl) (fun _ hj => upM_ne _ _ _ hj) (fun _ _ => rfl) dX12_spoiled_2 ?_
  refine j_aload_n o dX12_spoiled_5 rfl ?_
  refine j_iload_n o dX12_spoiled_6 rfl ?_
  refine j_callVi (g := 1) (ci := 12) o (c_X12_isForm l P a1 (upM M 1 0 0) N _ h) dX12_spoiled_7 jc_X12_262 jn_X12_isForm rfl rfl rfl (fun _ => rfl) rfl rfl (fun r1 Mz2 Nz3 h => ?_)
  obtain ⟨rfl, rfl, h⟩ := h
  refine j_if_eq o (tgt := 21) dX12_spoiled_10 (by decide) (fun c4 => ?_) (fun c4 => ?_)
  · replace h := h.1 c4
    refine j_iconst o (v := (-1)) dX12_spoiled_21 rfl ?_
    rw [hE]
    exact j_iret o dX12_spoiled_22 ⟨_, rfl, rfl, rfl, h⟩
  · replace h := h.2 c4
    refine j_aload_n o dX12_spoiled_13 rfl ?_
    refine j_iload_n o dX12_spoiled_14 rfl ?_
    refine j_callVi (g := 1) (ci := 12) o (c_X12_isLaw l P a2 (upM M 1 0 0) N _ h) dX12_spoiled_15 jc_X12_233 jn_X12_isLaw rfl rfl rfl (fun _ => rfl) rfl rfl (fun r5 Mz6 Nz7 h => ?_)
    obtain ⟨rfl, rfl, h⟩ := h
    refine j_if_ne o (tgt := 23) dX12_spoiled_18 (by decide) (fun c8 => ?_) (fun c8 => ?_)
    · replace h := h.1 c8
      refine j_iconst o (v := 0) dX12_spoiled_23 rfl ?_
      refine j_istore_n o [(3, .int 0), (0, .ref (P.1 1)), (1, .int a1), (2, .int a2)] dX12_spoiled_24 (by decide) rfl ?_
      refine j_iconst o (v := 0) dX12_spoiled_25 rfl ?_
      refine j_istore o [(4, .int 0), (3, .int 0), (0, .ref (P.1 1)), (1, .int a1), (2, .int a2)] dX12_spoiled_26 (by decide) rfl ?_
      replace h := h (fun (x9 : Int32) (x10 : Int32) => J X P (upM M 1 0 0) N 0 0 E 6 28 [(0, .ref (P.1 1)), (1, .int a1), (2, .int a2), (3, .int x9), (4, .int x10)] []) (by
        intro x9 x10 h
        refine j_iload o dX12_spoiled_28 rfl ?_
        refine j_aload_n o dX12_spoiled_30 rfl ?_
        refine j_getf o (g := 1) (slot := 2) (ci := 12) (v := .int ((upM M 1 0 0) 1 2)) rfl jin_X12 (by decide) rfl jf_X12_111 (fun _ => rfl) rfl dX12_spoiled_31 ?_
        refine j_icmp_ge o (tgt := 86) dX12_spoiled_34 (by decide) (fun c11 => ?_) (fun c11 => ?_)
        · replace h := h.1 c11
          refine j_iload_n o dX12_spoiled_86 rfl ?_
          rw [hE]
          exact j_iret o dX12_spoiled_87 ⟨_, rfl, rfl, rfl, h⟩
        · replace h := h.2 c11
          refine j_bipush o (v := 31) dX12_spoiled_37 rfl ?_
          refine j_aload_n o dX12_spoiled_39 rfl ?_
          refine j_iload_n o dX12_spoiled_40 rfl ?_
          refine j_iload o dX12_spoiled_41 rfl ?_
          refine j_callVi (g := 1) (ci := 12) o (c_X12_comesTo l P a1 x10 (upM M 1 0 0) N _ h) dX12_spoiled_43 jc_X12_268 jn_X12_comesTo rfl rfl rfl (fun _ => rfl) rfl rfl (fun r12 Mz13 Nz14 h => ?_)
          obtain ⟨rfl, rfl, h⟩ := h
          refine j_callSi o (c_J6_numberOfLeadingZeros_0f7a4 l P r12 (upM M 1 0 0) N _ h) dX12_spoiled_46 jc_X12_271 jn_J6_numberOfLeadingZeros_0f7a4 rfl rfl rfl rfl (fun r15 Mz16 Nz17 h => ?_)
          obtain ⟨rfl, rfl, h⟩ := h
          refine j_isub o dX12_spoiled_49 ?_
          refine j_istore o [(5, .int (31 - r15)), (0, .ref (P.1 1)), (1, .int a1), (2, .int a2), (3, .int x9), (4, .int x10)] dX12_spoiled_50 (by decide) rfl ?_
          refine j_iload_n o dX12_spoiled_52 rfl ?_
          refine j_aload_n o dX12_spoiled_53 rfl ?_
          refine j_iload_n o dX12_spoiled_54 rfl ?_
          refine j_iload o dX12_spoiled_55 rfl ?_
          refine j_callVi (g := 1) (ci := 12) o (c_X12_leadsOn l P a1 x10 (upM M 1 0 0) N _ h) dX12_spoiled_57 jc_X12_265 jn_X12_leadsOn rfl rfl rfl (fun _ => rfl) rfl rfl (fun r18 Mz19 Nz20 h => ?_)
          obtain ⟨rfl, rfl, h⟩ := h
          refine j_aload_n o dX12_spoiled_60 rfl ?_
          refine j_iload_n o dX12_spoiled_61 rfl ?_
          refine j_iload o dX12_spoiled_62 rfl ?_
          refine j_callVi (g := 1) (ci := 12) o (c_X12_saidOn l P a2 x10 (upM M 1 0 0) N _ h) dX12_spoiled_64 jc_X12_239 jn_X12_saidOn rfl rfl rfl (fun _ => rfl) rfl rfl (fun r21 Mz22 Nz23 h => ?_)
          obtain ⟨rfl, rfl, h⟩ := h
          replace h := h (fun (x24 : Int32) => J X P (upM M 1 0 0) N 0 0 E 6 78 [(0, .ref (P.1 1)), (1, .int a1), (2, .int a2), (4, .int x10)] [.int x24, .int x9]) (by
            intro x24 h
            refine j_ior o dX12_spoiled_78 ?_
            refine j_istore_n o [(3, .int (x9 ||| x24)), (0, .ref (P.1 1)), (1, .int a1), (2, .int a2), (4, .int x10)] dX12_spoiled_79 (by decide) rfl ?_
            refine j_iinc o (v := x10 + 1) [(4, .int (x10 + 1)), (3, .int (x9 ||| x24)), (0, .ref (P.1 1)), (1, .int a1), (2, .int a2)] dX12_spoiled_80 rfl rfl (by decide) rfl ?_
            refine j_goto o (tgt := 28) dX12_spoiled_83 (by decide) ?_
            exact j_pick [2, 3, 4, 1, 0] rfl h)
          refine j_icmp_eq o (tgt := 77) dX12_spoiled_67 (by decide) (fun c25 => ?_) (fun c25 => ?_)
          · replace h := h.1 c25
            refine j_iconst o (v := 0) dX12_spoiled_77 rfl ?_
            exact j_pick [1, 2, 3, 5] rfl h
          · replace h := h.2 c25
            refine j_iconst o (v := 1) dX12_spoiled_70 rfl ?_
            refine j_iload o dX12_spoiled_71 rfl ?_
            refine j_ishl o dX12_spoiled_73 ?_
            refine j_goto o (tgt := 78) dX12_spoiled_74 (by decide) ?_
            exact j_pick [1, 2, 3, 5] rfl h)
      exact j_pick [2, 3, 4, 1, 0] rfl h
    · replace h := h.2 c8
      refine j_iconst o (v := (-1)) dX12_spoiled_21 rfl ?_
      rw [hE]
      exact j_iret o dX12_spoiled_22 ⟨_, rfl, rfl, rfl, h⟩

abbrev rm_X12_unused : Room := { frames := 2, cells := 0, slots := 0, locals := 47 }
def w_X12_unused (P : jP) (a1 : Int32) (M : jM) (Q : Int32 → jM → Prop) : Prop :=
  w_X12_isForm P a1 (upM M 1 0 0) (fun r1 =>
  (¬ r1 = 0 → (
   vp_in a1 (7) ∧
   ∀ y6 : Int32, y6 = ((1 : Int32) <<< (((upM M 1 0 0) 7 a1.toNatClampNeg) &&& 31)) - 1 →
   ∀ R28 : Int32 → Int32 → Prop, (∀ (x7 : Int32) (x8 : Int32), (
    (((upM M 1 0 0) 1 2) ≤ x8 → (
     Q x7 (upM M 1 0 0)
    )) ∧ (¬ ((upM M 1 0 0) 1 2) ≤ x8 → (
     w_X12_comesTo P a1 x8 (upM M 1 0 0) (fun r10 =>
     R28 (x7 &&& (r10 ^^^ (-1))) (x8 + 1))
    ))
   ) → R28 x7 x8) →
   R28 y6 0
  )) ∧ (r1 = 0 → (
   Q (-1) (upM M 1 0 0)
  )))
set_option maxRecDepth 20000 in
theorem c_X12_unused (l : Launch) (P : jP) (a1 : Int32) (M : jM) (N : jN) (Q : Int32 → jM → Prop) (h : w_X12_unused P a1 M Q) : jC l yX12_unused cX12_unused 4 (some .int) rm_X12_unused LM [.ref (P.1 1), .int a1] P M N (jqi P (fun r M' N' => N = N' ∧ Q r M' )) := by
  refine jC_of (by decide +kernel) [(0, .ref (P.1 1)), (1, .int a1)] (Nat.le_of_ble_eq_true rfl) rfl (fun X o => ?_)
  obtain ⟨E, hE⟩ : ∃ E, E = jE X rm_X12_unused (jqi P (fun r M' N' => N = N' ∧ Q r M' )) := ⟨_, rfl⟩
  rw [← hE]
  unfold w_X12_unused at h
  refine j_aload_n o dX12_unused_0 rfl ?_
  refine j_iconst o (v := 0) dX12_unused_1 rfl ?_
  refine j_putf o (M1 := upM M 1 0 0) (N1 := N) (g := 1) (slot := 0) (ci := 12) (ty := .int) rfl jin_X12 tyX12_ok nmX12 (by decide) rfl rfl jf_X12_114 (by decide +kernel) rfl rfl (Nat.le_of_ble_eq_true rfl) (fun _ => rfl) (fun _ => rfl) (fun _ hj => upM_ne _ _ _ hj) (fun _ _ => rfl) dX12_unused_2 ?_
  refine j_aload_n o dX12_unused_5 rfl ?_
  refine j_iload_n o dX12_unused_6 rfl ?_
  refine j_callVi (g := 1) (ci := 12) o (c_X12_isForm l P a1 (upM M 1 0 0) N _ h) dX12_unused_7 jc_X12_262 jn_X12_isForm rfl rfl rfl (fun _ => rfl) rfl rfl (fun r1 Mz2 Nz3 h => ?_)
  obtain ⟨rfl, rfl, h⟩ := h
  refine j_if_ne o (tgt := 15) dX12_unused_10 (by decide) (fun c4 => ?_) (fun c4 => ?_)
  · replace h := h.1 c4
    refine j_iconst o (v := 1) dX12_unused_15 rfl ?_
    refine j_aload_n o dX12_unused_16 rfl ?_
    refine j_getf o (g := 1) (slot := 15) (ci := 12) (v := .ref (P.1 7)) rfl jin_X12 (by decide) rfl jf_X12_26 (fun _ => rfl) rfl dX12_unused_17 ?_
    refine j_iload_n o dX12_unused_20 rfl ?_
    obtain ⟨hb5, h⟩ := h
    refine j_iald o (g := 7) (fun _ => rfl) hb5 dX12_unused_21 ?_
    refine j_ishl o dX12_unused_22 ?_
    refine j_iconst o (v := 1) dX12_unused_23 rfl ?_
    refine j_isub o dX12_unused_24 ?_
    refine j_topi (fun y6 hy6 => ?_)
    replace h := h y6 hy6
    refine j_istore_n o [(2, .int y6), (0, .ref (P.1 1)), (1, .int a1)] dX12_unused_25 (by decide) rfl ?_
    refine j_iconst o (v := 0) dX12_unused_26 rfl ?_
    refine j_istore_n o [(3, .int 0), (2, .int y6), (0, .ref (P.1 1)), (1, .int a1)] dX12_unused_27 (by decide) rfl ?_
    replace h := h (fun (x7 : Int32) (x8 : Int32) => J X P (upM M 1 0 0) N 0 0 E 4 28 [(0, .ref (P.1 1)), (1, .int a1), (2, .int x7), (3, .int x8)] []) (by
      intro x7 x8 h
      refine j_iload_n o dX12_unused_28 rfl ?_
      refine j_aload_n o dX12_unused_29 rfl ?_
      refine j_getf o (g := 1) (slot := 2) (ci := 12) (v := .int ((upM M 1 0 0) 1 2)) rfl jin_X12 (by decide) rfl jf_X12_111 (fun _ => rfl) rfl dX12_unused_30 ?_
      refine j_icmp_ge o (tgt := 53) dX12_unused_33 (by decide) (fun c9 => ?_) (fun c9 => ?_)
      · replace h := h.1 c9
        refine j_iload_n o dX12_unused_53 rfl ?_
        rw [hE]
        exact j_iret o dX12_unused_54 ⟨_, rfl, rfl, rfl, h⟩
      · replace h := h.2 c9
        refine j_iload_n o dX12_unused_36 rfl ?_
        refine j_aload_n o dX12_unused_37 rfl ?_
        refine j_iload_n o dX12_unused_38 rfl ?_
        refine j_iload_n o dX12_unused_39 rfl ?_
        refine j_callVi (g := 1) (ci := 12) o (c_X12_comesTo l P a1 x8 (upM M 1 0 0) N _ h) dX12_unused_40 jc_X12_268 jn_X12_comesTo rfl rfl rfl (fun _ => rfl) rfl rfl (fun r10 Mz11 Nz12 h => ?_)
        obtain ⟨rfl, rfl, h⟩ := h
        refine j_iconst o (v := (-1)) dX12_unused_43 rfl ?_
        refine j_ixor o dX12_unused_44 ?_
        refine j_iand o dX12_unused_45 ?_
        refine j_istore_n o [(2, .int (x7 &&& (r10 ^^^ (-1)))), (0, .ref (P.1 1)), (1, .int a1), (3, .int x8)] dX12_unused_46 (by decide) rfl ?_
        refine j_iinc o (v := x8 + 1) [(3, .int (x8 + 1)), (2, .int (x7 &&& (r10 ^^^ (-1)))), (0, .ref (P.1 1)), (1, .int a1)] dX12_unused_47 rfl rfl (by decide) rfl ?_
        refine j_goto o (tgt := 28) dX12_unused_50 (by decide) ?_
        exact j_pick [2, 3, 1, 0] rfl h)
    exact j_pick [2, 3, 1, 0] rfl h
  · replace h := h.2 c4
    refine j_iconst o (v := (-1)) dX12_unused_13 rfl ?_
    rw [hE]
    exact j_iret o dX12_unused_14 ⟨_, rfl, rfl, rfl, h⟩

abbrev rm_X12_set : Room := { frames := 1, cells := 0, slots := 0, locals := 22 }
def w_X12_set (P : jP) (a1 : Int32) (a2 : Int32) (a3 : Int32) (M : jM) (Q : Int32 → jM → Prop) : Prop :=
  w_X12_isIn P a1 0 3 (fun r1 =>
  (r1 = 0 → (
   Q 0 (upM M 1 0 0)
  )) ∧ (¬ r1 = 0 → (
   ∀ R40 : Prop, ((
    ∀ R79 : Prop, ((
     ∀ R90 : jM → Prop, (∀ (M5 : jM), (
      ∀ R102 : jM → Prop, (∀ (M6 : jM), (
       ∀ R123 : jM → Prop, (∀ (M7 : jM), (
        (¬ a1 = 3 → (
         Q 1 M7
        )) ∧ (a1 = 3 → (
         vp_in a2 (9) ∧
         Q 1 (upM M7 16 a2.toNatClampNeg a3)
        ))
       ) → R123 M7) →
       (¬ a1 = 2 → (
        R123 M6
       )) ∧ (a1 = 2 → (
        ∀ R122 : Int32 → Prop, (∀ (x11 : Int32), (
         vp_in a2 (9) ∧
         jb x11 ∧
         R123 (upM M6 15 a2.toNatClampNeg x11)
        ) → R122 x11) →
        (¬ a3 = 1 → (
         R122 0
        )) ∧ (a3 = 1 → (
         R122 1
        ))
       ))
      ) → R102 M6) →
      (¬ a1 = 1 → (
       R102 M5
      )) ∧ (a1 = 1 → (
       vp_in a2 (10) ∧
       R102 (upM M5 13 a2.toNatClampNeg a3)
      ))
     ) → R90 M5) →
     (¬ a1 = 0 → (
      R90 (upM M 1 0 0)
     )) ∧ (a1 = 0 → (
      vp_in a2 (9) ∧
      R90 (upM (upM M 1 0 0) 12 a2.toNatClampNeg a3)
     ))
    ) → R79) →
    (2 ≤ a1 → (
     ∀ R71 : Int32 → Int32 → Prop, (∀ (x20 : Int32) (x21 : Int32), (
      w_X12_isIn P a3 x20 x21 (fun r22 =>
      (¬ r22 = 0 → (
       R79
      )) ∧ (r22 = 0 → (
       Q 0 (upM M 1 0 0)
      )))
     ) → R71 x20 x21) →
     (¬ a1 = 2 → (
      R71 0 10
     )) ∧ (a1 = 2 → (
      R71 0 1
     ))
    )) ∧ (¬ 2 ≤ a1 → (
     w_X12_isIn P a3 1 99 (fun r27 =>
     (r27 = 0 → (
      Q 0 (upM M 1 0 0)
     )) ∧ (¬ r27 = 0 → (
      R79
     )))
    ))
   ) → R40) →
   (¬ a1 = 1 → (
    w_X12_isFactNumber P a2 (upM M 1 0 0) (fun r32 =>
    (¬ r32 = 0 → (
     R40
    )) ∧ (r32 = 0 → (
     Q 0 (upM M 1 0 0)
    )))
   )) ∧ (a1 = 1 → (
    w_X12_isQuestion P a2 (upM M 1 0 0) (fun r36 =>
    (¬ r36 = 0 → (
     R40
    )) ∧ (r36 = 0 → (
     Q 0 (upM M 1 0 0)
    )))
   ))
  )))
set_option maxRecDepth 20000 in
theorem c_X12_set (l : Launch) (P : jP) (a1 : Int32) (a2 : Int32) (a3 : Int32) (M : jM) (N : jN) (Q : Int32 → jM → Prop) (h : w_X12_set P a1 a2 a3 M Q) : jC l yX12_set cX12_set 4 (some .boolean) rm_X12_set LM [.ref (P.1 1), .int a1, .int a2, .int a3] P M N (jqi P (fun r M' N' => N = N' ∧ Q r M' )) := by
  refine jC_of (by decide +kernel) [(0, .ref (P.1 1)), (1, .int a1), (2, .int a2), (3, .int a3)] (Nat.le_of_ble_eq_true rfl) rfl (fun X o => ?_)
  obtain ⟨E, hE⟩ : ∃ E, E = jE X rm_X12_set (jqi P (fun r M' N' => N = N' ∧ Q r M' )) := ⟨_, rfl⟩
  rw [← hE]
  unfold w_X12_set at h
  refine j_aload_n o dX12_set_0 rfl ?_
  refine j_iconst o (v := 0) dX12_set_1 rfl ?_
  refine j_putf o (M1 := upM M 1 0 0) (N1 := N) (g := 1) (slot := 0) (ci := 12) (ty := .int) rfl jin_X12 tyX12_ok nmX12 (by decide) rfl rfl jf_X12_114 (by decide +kernel) rfl rfl (Nat.le_of_ble_eq_true rfl) (fun _ => rfl) (fun _ => rfl) (fun _ hj => upM_ne _ _ _ hj) (fun _ _ => rfl) dX12_set_2 ?_
  refine j_iload_n o dX12_set_5 rfl ?_
  refine j_iconst o (v := 0) dX12_set_6 rfl ?_
  refine j_iconst o (v := 3) dX12_set_7 rfl ?_
  refine j_callSi o (c_X12_isIn l P a1 0 3 (upM M 1 0 0) N _ h) dX12_set_8 jc_X12_209 jn_X12_isIn rfl rfl rfl rfl (fun r1 Mz2 Nz3 h => ?_)
  obtain ⟨rfl, rfl, h⟩ := h
  refine j_if_eq o (tgt := 38) dX12_set_11 (by decide) (fun c4 => ?_) (fun c4 => ?_)
  · replace h := h.1 c4
    refine j_iconst o (v := 0) dX12_set_38 rfl ?_
    rw [hE]
    exact j_zret o rfl dX12_set_39 ⟨_, rfl, rfl, rfl, h⟩
  · replace h := h.2 c4
    refine j_iload_n o dX12_set_14 rfl ?_
    refine j_iconst o (v := 1) dX12_set_15 rfl ?_
    replace h := h (J X P (upM M 1 0 0) N 0 0 E 4 40 [(0, .ref (P.1 1)), (1, .int a1), (2, .int a2), (3, .int a3)] []) (by
      intro h
      refine j_iload_n o dX12_set_40 rfl ?_
      refine j_iconst o (v := 2) dX12_set_41 rfl ?_
      replace h := h (J X P (upM M 1 0 0) N 0 0 E 4 79 [(0, .ref (P.1 1)), (1, .int a1), (2, .int a2), (3, .int a3)] []) (by
        intro h
        refine j_iload_n o dX12_set_79 rfl ?_
        replace h := h (fun (M5 : jM) => J X P M5 N 0 0 E 4 90 [(0, .ref (P.1 1)), (1, .int a1), (2, .int a2), (3, .int a3)] []) (by
          intro M5 h
          refine j_iload_n o dX12_set_90 rfl ?_
          refine j_iconst o (v := 1) dX12_set_91 rfl ?_
          replace h := h (fun (M6 : jM) => J X P M6 N 0 0 E 4 102 [(0, .ref (P.1 1)), (1, .int a1), (2, .int a2), (3, .int a3)] []) (by
            intro M6 h
            refine j_iload_n o dX12_set_102 rfl ?_
            refine j_iconst o (v := 2) dX12_set_103 rfl ?_
            replace h := h (fun (M7 : jM) => J X P M7 N 0 0 E 4 123 [(0, .ref (P.1 1)), (1, .int a1), (2, .int a2), (3, .int a3)] []) (by
              intro M7 h
              refine j_iload_n o dX12_set_123 rfl ?_
              refine j_iconst o (v := 3) dX12_set_124 rfl ?_
              refine j_icmp_ne o (tgt := 135) dX12_set_125 (by decide) (fun c8 => ?_) (fun c8 => ?_)
              · replace h := h.1 c8
                refine j_iconst o (v := 1) dX12_set_135 rfl ?_
                rw [hE]
                exact j_zret o rfl dX12_set_136 ⟨_, rfl, rfl, rfl, h⟩
              · replace h := h.2 c8
                refine j_aload_n o dX12_set_128 rfl ?_
                refine j_getf o (g := 1) (slot := 28) (ci := 12) (v := .ref (P.1 16)) rfl jin_X12 (by decide) rfl jf_X12_54 (fun _ => rfl) rfl dX12_set_129 ?_
                refine j_iload_n o dX12_set_132 rfl ?_
                refine j_iload_n o dX12_set_133 rfl ?_
                obtain ⟨hb9, h⟩ := h
                refine j_iast o (g := 16) (fun _ _ _ => rfl) hb9 dX12_set_134 ?_
                refine j_iconst o (v := 1) dX12_set_135 rfl ?_
                rw [hE]
                exact j_zret o rfl dX12_set_136 ⟨_, rfl, rfl, rfl, h⟩)
            refine j_icmp_ne o (tgt := 123) dX12_set_104 (by decide) (fun c10 => ?_) (fun c10 => ?_)
            · replace h := h.1 c10
              exact j_pick [0, 1, 2, 3] rfl h
            · replace h := h.2 c10
              refine j_aload_n o dX12_set_107 rfl ?_
              refine j_getf o (g := 1) (slot := 24) (ci := 12) (v := .ref (P.1 15)) rfl jin_X12 (by decide) rfl jf_X12_51 (fun _ => rfl) rfl dX12_set_108 ?_
              refine j_iload_n o dX12_set_111 rfl ?_
              refine j_iload_n o dX12_set_112 rfl ?_
              refine j_iconst o (v := 1) dX12_set_113 rfl ?_
              replace h := h (fun (x11 : Int32) => J X P M6 N 0 0 E 4 122 [(0, .ref (P.1 1)), (1, .int a1), (2, .int a2), (3, .int a3)] [.int x11, .int a2, .ref (P.1 15)]) (by
                intro x11 h
                obtain ⟨hb12, h⟩ := h
                obtain ⟨hz13, h⟩ := h
                refine j_zast o (g := 15) (fun _ _ _ => rfl) hb12 hz13.1 dX12_set_122 ?_
                exact j_pick [0, 1, 2, 3] rfl h)
              refine j_icmp_ne o (tgt := 121) dX12_set_114 (by decide) (fun c14 => ?_) (fun c14 => ?_)
              · replace h := h.1 c14
                refine j_iconst o (v := 0) dX12_set_121 rfl ?_
                exact j_pick [0, 1, 2, 3] rfl h
              · replace h := h.2 c14
                refine j_iconst o (v := 1) dX12_set_117 rfl ?_
                refine j_goto o (tgt := 122) dX12_set_118 (by decide) ?_
                exact j_pick [0, 1, 2, 3] rfl h)
          refine j_icmp_ne o (tgt := 102) dX12_set_92 (by decide) (fun c15 => ?_) (fun c15 => ?_)
          · replace h := h.1 c15
            exact j_pick [0, 1, 2, 3] rfl h
          · replace h := h.2 c15
            refine j_aload_n o dX12_set_95 rfl ?_
            refine j_getf o (g := 1) (slot := 22) (ci := 12) (v := .ref (P.1 13)) rfl jin_X12 (by decide) rfl jf_X12_44 (fun _ => rfl) rfl dX12_set_96 ?_
            refine j_iload_n o dX12_set_99 rfl ?_
            refine j_iload_n o dX12_set_100 rfl ?_
            obtain ⟨hb16, h⟩ := h
            refine j_iast o (g := 13) (fun _ _ _ => rfl) hb16 dX12_set_101 ?_
            exact j_pick [0, 1, 2, 3] rfl h)
        refine j_if_ne o (tgt := 90) dX12_set_80 (by decide) (fun c17 => ?_) (fun c17 => ?_)
        · replace h := h.1 c17
          exact j_pick [0, 1, 2, 3] rfl h
        · replace h := h.2 c17
          refine j_aload_n o dX12_set_83 rfl ?_
          refine j_getf o (g := 1) (slot := 21) (ci := 12) (v := .ref (P.1 12)) rfl jin_X12 (by decide) rfl jf_X12_41 (fun _ => rfl) rfl dX12_set_84 ?_
          refine j_iload_n o dX12_set_87 rfl ?_
          refine j_iload_n o dX12_set_88 rfl ?_
          obtain ⟨hb18, h⟩ := h
          refine j_iast o (g := 12) (fun _ _ _ => rfl) hb18 dX12_set_89 ?_
          exact j_pick [0, 1, 2, 3] rfl h)
      refine j_icmp_ge o (tgt := 58) dX12_set_42 (by decide) (fun c19 => ?_) (fun c19 => ?_)
      · replace h := h.1 c19
        refine j_iload_n o dX12_set_58 rfl ?_
        refine j_iconst o (v := 0) dX12_set_59 rfl ?_
        refine j_iload_n o dX12_set_60 rfl ?_
        refine j_iconst o (v := 2) dX12_set_61 rfl ?_
        replace h := h (fun (x20 : Int32) (x21 : Int32) => J X P (upM M 1 0 0) N 0 0 E 4 71 [(0, .ref (P.1 1)), (1, .int a1), (2, .int a2), (3, .int a3)] [.int x21, .int x20, .int a3]) (by
          intro x20 x21 h
          refine j_callSi o (c_X12_isIn l P a3 x20 x21 (upM M 1 0 0) N _ h) dX12_set_71 jc_X12_209 jn_X12_isIn rfl rfl rfl rfl (fun r22 Mz23 Nz24 h => ?_)
          obtain ⟨rfl, rfl, h⟩ := h
          refine j_if_ne o (tgt := 79) dX12_set_74 (by decide) (fun c25 => ?_) (fun c25 => ?_)
          · replace h := h.1 c25
            exact j_pick [0, 1, 2, 3] rfl h
          · replace h := h.2 c25
            refine j_iconst o (v := 0) dX12_set_77 rfl ?_
            rw [hE]
            exact j_zret o rfl dX12_set_78 ⟨_, rfl, rfl, rfl, h⟩)
        refine j_icmp_ne o (tgt := 69) dX12_set_62 (by decide) (fun c26 => ?_) (fun c26 => ?_)
        · replace h := h.1 c26
          refine j_bipush o (v := 10) dX12_set_69 rfl ?_
          exact j_pick [0, 1, 2, 3] rfl h
        · replace h := h.2 c26
          refine j_iconst o (v := 1) dX12_set_65 rfl ?_
          refine j_goto o (tgt := 71) dX12_set_66 (by decide) ?_
          exact j_pick [0, 1, 2, 3] rfl h
      · replace h := h.2 c19
        refine j_iload_n o dX12_set_45 rfl ?_
        refine j_iconst o (v := 1) dX12_set_46 rfl ?_
        refine j_bipush o (v := 99) dX12_set_47 rfl ?_
        refine j_callSi o (c_X12_isIn l P a3 1 99 (upM M 1 0 0) N _ h) dX12_set_49 jc_X12_209 jn_X12_isIn rfl rfl rfl rfl (fun r27 Mz28 Nz29 h => ?_)
        obtain ⟨rfl, rfl, h⟩ := h
        refine j_if_eq o (tgt := 77) dX12_set_52 (by decide) (fun c30 => ?_) (fun c30 => ?_)
        · replace h := h.1 c30
          refine j_iconst o (v := 0) dX12_set_77 rfl ?_
          rw [hE]
          exact j_zret o rfl dX12_set_78 ⟨_, rfl, rfl, rfl, h⟩
        · replace h := h.2 c30
          refine j_goto o (tgt := 79) dX12_set_55 (by decide) ?_
          exact j_pick [0, 1, 2, 3] rfl h)
    refine j_icmp_ne o (tgt := 30) dX12_set_16 (by decide) (fun c31 => ?_) (fun c31 => ?_)
    · replace h := h.1 c31
      refine j_aload_n o dX12_set_30 rfl ?_
      refine j_iload_n o dX12_set_31 rfl ?_
      refine j_callVi (g := 1) (ci := 12) o (c_X12_isFactNumber l P a2 (upM M 1 0 0) N _ h) dX12_set_32 jc_X12_277 jn_X12_isFactNumber rfl rfl rfl (fun _ => rfl) rfl rfl (fun r32 Mz33 Nz34 h => ?_)
      obtain ⟨rfl, rfl, h⟩ := h
      refine j_if_ne o (tgt := 40) dX12_set_35 (by decide) (fun c35 => ?_) (fun c35 => ?_)
      · replace h := h.1 c35
        exact j_pick [0, 1, 2, 3] rfl h
      · replace h := h.2 c35
        refine j_iconst o (v := 0) dX12_set_38 rfl ?_
        rw [hE]
        exact j_zret o rfl dX12_set_39 ⟨_, rfl, rfl, rfl, h⟩
    · replace h := h.2 c31
      refine j_aload_n o dX12_set_19 rfl ?_
      refine j_iload_n o dX12_set_20 rfl ?_
      refine j_callVi (g := 1) (ci := 12) o (c_X12_isQuestion l P a2 (upM M 1 0 0) N _ h) dX12_set_21 jc_X12_274 jn_X12_isQuestion rfl rfl rfl (fun _ => rfl) rfl rfl (fun r36 Mz37 Nz38 h => ?_)
      obtain ⟨rfl, rfl, h⟩ := h
      refine j_if_ne o (tgt := 40) dX12_set_24 (by decide) (fun c39 => ?_) (fun c39 => ?_)
      · replace h := h.1 c39
        exact j_pick [0, 1, 2, 3] rfl h
      · replace h := h.2 c39
        refine j_goto o (tgt := 38) dX12_set_27 (by decide) ?_
        refine j_iconst o (v := 0) dX12_set_38 rfl ?_
        rw [hE]
        exact j_zret o rfl dX12_set_39 ⟨_, rfl, rfl, rfl, h⟩

abbrev rm_X12_sort : Room := { frames := 1, cells := 0, slots := 0, locals := 22 }
def w_X12_sort (P : jP) (a1 : Int32) (M : jM) (Q : Int32 → jM → Prop) : Prop :=
  (((upM M 1 0 0) 1 31) = 4 → (
   Q (-1) (upM M 1 0 0)
  )) ∧ (¬ ((upM M 1 0 0) 1 31) = 4 → (
   w_X12_isIn P a1 1 9 (fun r2 =>
   (¬ r2 = 0 → (
    vp_in ((upM M 1 0 0) 1 31) (4) ∧
    ∀ M7 : jM, M7 = upM (upM M 1 0 0) 17 ((upM M 1 0 0) 1 31).toNatClampNeg a1 →
    ∀ R37 : Int32 → jM → Prop, (∀ (x8 : Int32) (M9 : jM), (
     (9 ≤ x8 → (
      Q (((upM M9 1 31 ((M9 1 31) + 1)) 1 31) - 1) (upM M9 1 31 ((M9 1 31) + 1))
     )) ∧ (¬ 9 ≤ x8 → (
      vp_in ((9 * (M9 1 31)) + x8) (36) ∧
      ∀ M12 : jM, M12 = upM M9 18 ((9 * (M9 1 31)) + x8).toNatClampNeg 5 →
      R37 (x8 + 1) M12
     ))
    ) → R37 x8 M9) →
    R37 0 M7
   )) ∧ (r2 = 0 → (
    Q (-1) (upM M 1 0 0)
   )))
  ))
set_option maxRecDepth 20000 in
theorem c_X12_sort (l : Launch) (P : jP) (a1 : Int32) (M : jM) (N : jN) (Q : Int32 → jM → Prop) (h : w_X12_sort P a1 M Q) : jC l yX12_sort cX12_sort 3 (some .int) rm_X12_sort LM [.ref (P.1 1), .int a1] P M N (jqi P (fun r M' N' => N = N' ∧ Q r M' )) := by
  refine jC_of (by decide +kernel) [(0, .ref (P.1 1)), (1, .int a1)] (Nat.le_of_ble_eq_true rfl) rfl (fun X o => ?_)
  obtain ⟨E, hE⟩ : ∃ E, E = jE X rm_X12_sort (jqi P (fun r M' N' => N = N' ∧ Q r M' )) := ⟨_, rfl⟩
  rw [← hE]
  unfold w_X12_sort at h
  refine j_aload_n o dX12_sort_0 rfl ?_
  refine j_iconst o (v := 0) dX12_sort_1 rfl ?_
  refine j_putf o (M1 := upM M 1 0 0) (N1 := N) (g := 1) (slot := 0) (ci := 12) (ty := .int) rfl jin_X12 tyX12_ok nmX12 (by decide) rfl rfl jf_X12_114 (by decide +kernel) rfl rfl (Nat.le_of_ble_eq_true rfl) (fun _ => rfl) (fun _ => rfl) (fun _ hj => upM_ne _ _ _ hj) (fun _ _ => rfl) dX12_sort_2 ?_
  refine j_aload_n o dX12_sort_5 rfl ?_
  refine j_getf o (g := 1) (slot := 31) (ci := 12) (v := .int ((upM M 1 0 0) 1 31)) rfl jin_X12 (by decide) rfl jf_X12_280 (fun _ => rfl) rfl dX12_sort_6 ?_
  refine j_iconst o (v := 4) dX12_sort_9 rfl ?_
  refine j_icmp_eq o (tgt := 23) dX12_sort_10 (by decide) (fun c1 => ?_) (fun c1 => ?_)
  · replace h := h.1 c1
    refine j_iconst o (v := (-1)) dX12_sort_23 rfl ?_
    rw [hE]
    exact j_iret o dX12_sort_24 ⟨_, rfl, rfl, rfl, h⟩
  · replace h := h.2 c1
    refine j_iload_n o dX12_sort_13 rfl ?_
    refine j_iconst o (v := 1) dX12_sort_14 rfl ?_
    refine j_bipush o (v := 9) dX12_sort_15 rfl ?_
    refine j_callSi o (c_X12_isIn l P a1 1 9 (upM M 1 0 0) N _ h) dX12_sort_17 jc_X12_209 jn_X12_isIn rfl rfl rfl rfl (fun r2 Mz3 Nz4 h => ?_)
    obtain ⟨rfl, rfl, h⟩ := h
    refine j_if_ne o (tgt := 25) dX12_sort_20 (by decide) (fun c5 => ?_) (fun c5 => ?_)
    · replace h := h.1 c5
      refine j_aload_n o dX12_sort_25 rfl ?_
      refine j_getf o (g := 1) (slot := 29) (ci := 12) (v := .ref (P.1 17)) rfl jin_X12 (by decide) rfl jf_X12_57 (fun _ => rfl) rfl dX12_sort_26 ?_
      refine j_aload_n o dX12_sort_29 rfl ?_
      refine j_getf o (g := 1) (slot := 31) (ci := 12) (v := .int ((upM M 1 0 0) 1 31)) rfl jin_X12 (by decide) rfl jf_X12_280 (fun _ => rfl) rfl dX12_sort_30 ?_
      refine j_iload_n o dX12_sort_33 rfl ?_
      obtain ⟨hb6, h⟩ := h
      refine j_iast o (g := 17) (fun _ _ _ => rfl) hb6 dX12_sort_34 ?_
      refine j_nameM (fun M7 hM7 => ?_)
      replace h := h M7 hM7
      refine j_iconst o (v := 0) dX12_sort_35 rfl ?_
      refine j_istore_n o [(2, .int 0), (0, .ref (P.1 1)), (1, .int a1)] dX12_sort_36 (by decide) rfl ?_
      replace h := h (fun (x8 : Int32) (M9 : jM) => J X P M9 N 0 0 E 3 37 [(0, .ref (P.1 1)), (2, .int x8)] []) (by
        intro x8 M9 h
        refine j_iload_n o dX12_sort_37 rfl ?_
        refine j_bipush o (v := 9) dX12_sort_38 rfl ?_
        refine j_icmp_ge o (tgt := 64) dX12_sort_40 (by decide) (fun c10 => ?_) (fun c10 => ?_)
        · replace h := h.1 c10
          refine j_aload_n o dX12_sort_64 rfl ?_
          refine j_dup o dX12_sort_65 rfl ?_
          refine j_getf o (g := 1) (slot := 31) (ci := 12) (v := .int (M9 1 31)) rfl jin_X12 (by decide) rfl jf_X12_280 (fun _ => rfl) rfl dX12_sort_66 ?_
          refine j_iconst o (v := 1) dX12_sort_69 rfl ?_
          refine j_iadd o dX12_sort_70 ?_
          refine j_putf o (M1 := upM M9 1 31 ((M9 1 31) + 1)) (N1 := N) (g := 1) (slot := 31) (ci := 12) (ty := .int) rfl jin_X12 tyX12_ok nmX12 (by decide) rfl rfl jf_X12_280 (by decide +kernel) rfl rfl (Nat.le_of_ble_eq_true rfl) (fun _ => rfl) (fun _ => rfl) (fun _ hj => upM_ne _ _ _ hj) (fun _ _ => rfl) dX12_sort_71 ?_
          refine j_aload_n o dX12_sort_74 rfl ?_
          refine j_getf o (g := 1) (slot := 31) (ci := 12) (v := .int ((upM M9 1 31 ((M9 1 31) + 1)) 1 31)) rfl jin_X12 (by decide) rfl jf_X12_280 (fun _ => rfl) rfl dX12_sort_75 ?_
          refine j_iconst o (v := 1) dX12_sort_78 rfl ?_
          refine j_isub o dX12_sort_79 ?_
          rw [hE]
          exact j_iret o dX12_sort_80 ⟨_, rfl, rfl, rfl, h⟩
        · replace h := h.2 c10
          refine j_aload_n o dX12_sort_43 rfl ?_
          refine j_getf o (g := 1) (slot := 30) (ci := 12) (v := .ref (P.1 18)) rfl jin_X12 (by decide) rfl jf_X12_60 (fun _ => rfl) rfl dX12_sort_44 ?_
          refine j_bipush o (v := 9) dX12_sort_47 rfl ?_
          refine j_aload_n o dX12_sort_49 rfl ?_
          refine j_getf o (g := 1) (slot := 31) (ci := 12) (v := .int (M9 1 31)) rfl jin_X12 (by decide) rfl jf_X12_280 (fun _ => rfl) rfl dX12_sort_50 ?_
          refine j_imul o dX12_sort_53 ?_
          refine j_iload_n o dX12_sort_54 rfl ?_
          refine j_iadd o dX12_sort_55 ?_
          refine j_iconst o (v := 5) dX12_sort_56 rfl ?_
          obtain ⟨hb11, h⟩ := h
          refine j_iast o (g := 18) (fun _ _ _ => rfl) hb11 dX12_sort_57 ?_
          refine j_nameM (fun M12 hM12 => ?_)
          replace h := h M12 hM12
          refine j_iinc o (v := x8 + 1) [(2, .int (x8 + 1)), (0, .ref (P.1 1))] dX12_sort_58 rfl rfl (by decide) rfl ?_
          refine j_goto o (tgt := 37) dX12_sort_61 (by decide) ?_
          exact j_pick [1, 0] rfl h)
      exact j_pick [1, 0] rfl h
    · replace h := h.2 c5
      refine j_iconst o (v := (-1)) dX12_sort_23 rfl ?_
      rw [hE]
      exact j_iret o dX12_sort_24 ⟨_, rfl, rfl, rfl, h⟩

abbrev rm_X12_chance : Room := { frames := 1, cells := 0, slots := 0, locals := 22 }
def w_X12_chance (P : jP) (a1 : Int32) (a2 : Int32) (a3 : Int32) (M : jM) (Q : Int32 → jM → Prop) : Prop :=
  w_X12_isIn P a1 0 (((upM M 1 0 0) 1 31) - 1) (fun r1 =>
  (r1 = 0 → (
   Q 0 (upM M 1 0 0)
  )) ∧ (¬ r1 = 0 → (
   w_X12_isFactNumber P a2 (upM M 1 0 0) (fun r5 =>
   (r5 = 0 → (
    Q 0 (upM M 1 0 0)
   )) ∧ (¬ r5 = 0 → (
    w_X12_isIn P a3 0 10 (fun r9 =>
    (¬ r9 = 0 → (
     vp_in ((9 * a1) + a2) (36) ∧
     ∀ M14 : jM, M14 = upM (upM M 1 0 0) 18 ((9 * a1) + a2).toNatClampNeg a3 →
     Q 1 M14
    )) ∧ (r9 = 0 → (
     Q 0 (upM M 1 0 0)
    )))
   )))
  )))
set_option maxRecDepth 20000 in
theorem c_X12_chance (l : Launch) (P : jP) (a1 : Int32) (a2 : Int32) (a3 : Int32) (M : jM) (N : jN) (Q : Int32 → jM → Prop) (h : w_X12_chance P a1 a2 a3 M Q) : jC l yX12_chance cX12_chance 4 (some .boolean) rm_X12_chance LM [.ref (P.1 1), .int a1, .int a2, .int a3] P M N (jqi P (fun r M' N' => N = N' ∧ Q r M' )) := by
  refine jC_of (by decide +kernel) [(0, .ref (P.1 1)), (1, .int a1), (2, .int a2), (3, .int a3)] (Nat.le_of_ble_eq_true rfl) rfl (fun X o => ?_)
  obtain ⟨E, hE⟩ : ∃ E, E = jE X rm_X12_chance (jqi P (fun r M' N' => N = N' ∧ Q r M' )) := ⟨_, rfl⟩
  rw [← hE]
  unfold w_X12_chance at h
  refine j_aload_n o dX12_chance_0 rfl ?_
  refine j_iconst o (v := 0) dX12_chance_1 rfl ?_
  refine j_putf o (M1 := upM M 1 0 0) (N1 := N) (g := 1) (slot := 0) (ci := 12) (ty := .int) rfl jin_X12 tyX12_ok nmX12 (by decide) rfl rfl jf_X12_114 (by decide +kernel) rfl rfl (Nat.le_of_ble_eq_true rfl) (fun _ => rfl) (fun _ => rfl) (fun _ hj => upM_ne _ _ _ hj) (fun _ _ => rfl) dX12_chance_2 ?_
  refine j_iload_n o dX12_chance_5 rfl ?_
  refine j_iconst o (v := 0) dX12_chance_6 rfl ?_
  refine j_aload_n o dX12_chance_7 rfl ?_
  refine j_getf o (g := 1) (slot := 31) (ci := 12) (v := .int ((upM M 1 0 0) 1 31)) rfl jin_X12 (by decide) rfl jf_X12_280 (fun _ => rfl) rfl dX12_chance_8 ?_
  refine j_iconst o (v := 1) dX12_chance_11 rfl ?_
  refine j_isub o dX12_chance_12 ?_
  refine j_callSi o (c_X12_isIn l P a1 0 (((upM M 1 0 0) 1 31) - 1) (upM M 1 0 0) N _ h) dX12_chance_13 jc_X12_209 jn_X12_isIn rfl rfl rfl rfl (fun r1 Mz2 Nz3 h => ?_)
  obtain ⟨rfl, rfl, h⟩ := h
  refine j_if_eq o (tgt := 37) dX12_chance_16 (by decide) (fun c4 => ?_) (fun c4 => ?_)
  · replace h := h.1 c4
    refine j_iconst o (v := 0) dX12_chance_37 rfl ?_
    rw [hE]
    exact j_zret o rfl dX12_chance_38 ⟨_, rfl, rfl, rfl, h⟩
  · replace h := h.2 c4
    refine j_aload_n o dX12_chance_19 rfl ?_
    refine j_iload_n o dX12_chance_20 rfl ?_
    refine j_callVi (g := 1) (ci := 12) o (c_X12_isFactNumber l P a2 (upM M 1 0 0) N _ h) dX12_chance_21 jc_X12_277 jn_X12_isFactNumber rfl rfl rfl (fun _ => rfl) rfl rfl (fun r5 Mz6 Nz7 h => ?_)
    obtain ⟨rfl, rfl, h⟩ := h
    refine j_if_eq o (tgt := 37) dX12_chance_24 (by decide) (fun c8 => ?_) (fun c8 => ?_)
    · replace h := h.1 c8
      refine j_iconst o (v := 0) dX12_chance_37 rfl ?_
      rw [hE]
      exact j_zret o rfl dX12_chance_38 ⟨_, rfl, rfl, rfl, h⟩
    · replace h := h.2 c8
      refine j_iload_n o dX12_chance_27 rfl ?_
      refine j_iconst o (v := 0) dX12_chance_28 rfl ?_
      refine j_bipush o (v := 10) dX12_chance_29 rfl ?_
      refine j_callSi o (c_X12_isIn l P a3 0 10 (upM M 1 0 0) N _ h) dX12_chance_31 jc_X12_209 jn_X12_isIn rfl rfl rfl rfl (fun r9 Mz10 Nz11 h => ?_)
      obtain ⟨rfl, rfl, h⟩ := h
      refine j_if_ne o (tgt := 39) dX12_chance_34 (by decide) (fun c12 => ?_) (fun c12 => ?_)
      · replace h := h.1 c12
        refine j_aload_n o dX12_chance_39 rfl ?_
        refine j_getf o (g := 1) (slot := 30) (ci := 12) (v := .ref (P.1 18)) rfl jin_X12 (by decide) rfl jf_X12_60 (fun _ => rfl) rfl dX12_chance_40 ?_
        refine j_bipush o (v := 9) dX12_chance_43 rfl ?_
        refine j_iload_n o dX12_chance_45 rfl ?_
        refine j_imul o dX12_chance_46 ?_
        refine j_iload_n o dX12_chance_47 rfl ?_
        refine j_iadd o dX12_chance_48 ?_
        refine j_iload_n o dX12_chance_49 rfl ?_
        obtain ⟨hb13, h⟩ := h
        refine j_iast o (g := 18) (fun _ _ _ => rfl) hb13 dX12_chance_50 ?_
        refine j_nameM (fun M14 hM14 => ?_)
        replace h := h M14 hM14
        refine j_iconst o (v := 1) dX12_chance_51 rfl ?_
        rw [hE]
        exact j_zret o rfl dX12_chance_52 ⟨_, rfl, rfl, rfl, h⟩
      · replace h := h.2 c12
        refine j_iconst o (v := 0) dX12_chance_37 rfl ?_
        rw [hE]
        exact j_zret o rfl dX12_chance_38 ⟨_, rfl, rfl, rfl, h⟩

abbrev rm_X12_shareOf : Room := { frames := 1, cells := 0, slots := 0, locals := 21 }
def w_X12_shareOf (P : jP) (a1 : Int32) (a2 : Int32) (M : jM) (Q : Int64 → Prop) : Prop :=
  ∀ R5 : Int64 → Int32 → Prop, (∀ (x1 : Int64) (x2 : Int32), (
   ((M 1 31) ≤ x2 → (
    Q x1
   )) ∧ (¬ (M 1 31) ≤ x2 → (
    vp_in x2 (4) ∧
    ∀ R27 : Int64 → Int32 → Prop, (∀ (x5 : Int64) (x6 : Int32), (
     ((M 1 1) ≤ x6 → (
      R5 (x1 + x5) (x2 + 1)
     )) ∧ (¬ (M 1 1) ≤ x6 → (
      w_X12_has P a1 x6 (fun r8 =>
      ∀ R96 : Int64 → Prop, (∀ (x11 : Int64), (
       R27 (x5 * x11) (x6 + 1)
      ) → R96 x11) →
      (¬ r8 = 0 → (
       w_X12_has P a2 x6 (fun r13 =>
       (r13 = 0 → (
        vp_in ((9 * x2) + x6) (36) ∧
        R96 ((10 - (M 18 ((9 * x2) + x6).toNatClampNeg)).toInt64)
       )) ∧ (¬ r13 = 0 → (
        vp_in ((9 * x2) + x6) (36) ∧
        R96 ((M 18 ((9 * x2) + x6).toNatClampNeg).toInt64)
       )))
      )) ∧ (r8 = 0 → (
       R96 10
      )))
     ))
    ) → R27 x5 x6) →
    R27 ((M 17 x2.toNatClampNeg).toInt64) 0
   ))
  ) → R5 x1 x2) →
  R5 0 0
set_option maxRecDepth 20000 in
theorem c_X12_shareOf (l : Launch) (P : jP) (a1 : Int32) (a2 : Int32) (M : jM) (N : jN) (Q : Int64 → Prop) (h : w_X12_shareOf P a1 a2 M Q) : jC l yX12_shareOf cX12_shareOf 9 (some .long) rm_X12_shareOf LM [.ref (P.1 1), .int a1, .int a2] P M N (jql P (fun r M' N' => M = M' ∧ N = N' ∧ Q r )) := by
  refine jC_of (by decide +kernel) [(0, .ref (P.1 1)), (1, .int a1), (2, .int a2)] (Nat.le_of_ble_eq_true rfl) rfl (fun X o => ?_)
  obtain ⟨E, hE⟩ : ∃ E, E = jE X rm_X12_shareOf (jql P (fun r M' N' => M = M' ∧ N = N' ∧ Q r )) := ⟨_, rfl⟩
  rw [← hE]
  unfold w_X12_shareOf at h
  refine j_lconst o (v := 0) dX12_shareOf_0 rfl ?_
  refine j_lstore_n o [(3, .long 0), (0, .ref (P.1 1)), (1, .int a1), (2, .int a2)] dX12_shareOf_1 (by decide) rfl ?_
  refine j_iconst o (v := 0) dX12_shareOf_2 rfl ?_
  refine j_istore o [(5, .int 0), (3, .long 0), (0, .ref (P.1 1)), (1, .int a1), (2, .int a2)] dX12_shareOf_3 (by decide) rfl ?_
  replace h := h (fun (x1 : Int64) (x2 : Int32) => J X P M N 0 0 E 9 5 [(0, .ref (P.1 1)), (1, .int a1), (2, .int a2), (3, .long x1), (5, .int x2)] []) (by
    intro x1 x2 h
    refine j_iload o dX12_shareOf_5 rfl ?_
    refine j_aload_n o dX12_shareOf_7 rfl ?_
    refine j_getf o (g := 1) (slot := 31) (ci := 12) (v := .int (M 1 31)) rfl jin_X12 (by decide) rfl jf_X12_280 (fun _ => rfl) rfl dX12_shareOf_8 ?_
    refine j_icmp_ge o (tgt := 116) dX12_shareOf_11 (by decide) (fun c3 => ?_) (fun c3 => ?_)
    · replace h := h.1 c3
      refine j_lload_n o dX12_shareOf_116 rfl ?_
      rw [hE]
      exact j_lret o dX12_shareOf_117 ⟨_, rfl, rfl, rfl, rfl, h⟩
    · replace h := h.2 c3
      refine j_aload_n o dX12_shareOf_14 rfl ?_
      refine j_getf o (g := 1) (slot := 29) (ci := 12) (v := .ref (P.1 17)) rfl jin_X12 (by decide) rfl jf_X12_57 (fun _ => rfl) rfl dX12_shareOf_15 ?_
      refine j_iload o dX12_shareOf_18 rfl ?_
      obtain ⟨hb4, h⟩ := h
      refine j_iald o (g := 17) (fun _ => rfl) hb4 dX12_shareOf_20 ?_
      refine j_i2l o dX12_shareOf_21 ?_
      refine j_lstore o [(6, .long ((M 17 x2.toNatClampNeg).toInt64)), (0, .ref (P.1 1)), (1, .int a1), (2, .int a2), (3, .long x1), (5, .int x2)] dX12_shareOf_22 (by decide) rfl ?_
      refine j_iconst o (v := 0) dX12_shareOf_24 rfl ?_
      refine j_istore o [(8, .int 0), (6, .long ((M 17 x2.toNatClampNeg).toInt64)), (0, .ref (P.1 1)), (1, .int a1), (2, .int a2), (3, .long x1), (5, .int x2)] dX12_shareOf_25 (by decide) rfl ?_
      replace h := h (fun (x5 : Int64) (x6 : Int32) => J X P M N 0 0 E 9 27 [(0, .ref (P.1 1)), (1, .int a1), (2, .int a2), (3, .long x1), (5, .int x2), (6, .long x5), (8, .int x6)] []) (by
        intro x5 x6 h
        refine j_iload o dX12_shareOf_27 rfl ?_
        refine j_aload_n o dX12_shareOf_29 rfl ?_
        refine j_getf o (g := 1) (slot := 1) (ci := 12) (v := .int (M 1 1)) rfl jin_X12 (by decide) rfl jf_X12_107 (fun _ => rfl) rfl dX12_shareOf_30 ?_
        refine j_icmp_ge o (tgt := 105) dX12_shareOf_33 (by decide) (fun c7 => ?_) (fun c7 => ?_)
        · replace h := h.1 c7
          refine j_lload_n o dX12_shareOf_105 rfl ?_
          refine j_lload o dX12_shareOf_106 rfl ?_
          refine j_ladd o dX12_shareOf_108 ?_
          refine j_lstore_n o [(3, .long (x1 + x5)), (0, .ref (P.1 1)), (1, .int a1), (2, .int a2), (5, .int x2), (6, .long x5), (8, .int x6)] dX12_shareOf_109 (by decide) rfl ?_
          refine j_iinc o (v := x2 + 1) [(5, .int (x2 + 1)), (3, .long (x1 + x5)), (0, .ref (P.1 1)), (1, .int a1), (2, .int a2), (6, .long x5), (8, .int x6)] dX12_shareOf_110 rfl rfl (by decide) rfl ?_
          refine j_goto o (tgt := 5) dX12_shareOf_113 (by decide) ?_
          exact j_pick [2, 3, 4, 1, 0] rfl h
        · replace h := h.2 c7
          refine j_lload o dX12_shareOf_36 rfl ?_
          refine j_iload_n o dX12_shareOf_38 rfl ?_
          refine j_iload o dX12_shareOf_39 rfl ?_
          refine j_callSi o (c_X12_has l P a1 x6 M N _ h) dX12_shareOf_41 jc_X12_157 jn_X12_has rfl rfl rfl rfl (fun r8 Mz9 Nz10 h => ?_)
          obtain ⟨rfl, rfl, h⟩ := h
          replace h := h (fun (x11 : Int64) => J X P M N 0 0 E 9 96 [(0, .ref (P.1 1)), (1, .int a1), (2, .int a2), (3, .long x1), (5, .int x2), (8, .int x6)] [.long x11, .long x5]) (by
            intro x11 h
            refine j_lmul o dX12_shareOf_96 ?_
            refine j_lstore o [(6, .long (x5 * x11)), (0, .ref (P.1 1)), (1, .int a1), (2, .int a2), (3, .long x1), (5, .int x2), (8, .int x6)] dX12_shareOf_97 (by decide) rfl ?_
            refine j_iinc o (v := x6 + 1) [(8, .int (x6 + 1)), (6, .long (x5 * x11)), (0, .ref (P.1 1)), (1, .int a1), (2, .int a2), (3, .long x1), (5, .int x2)] dX12_shareOf_99 rfl rfl (by decide) rfl ?_
            refine j_goto o (tgt := 27) dX12_shareOf_102 (by decide) ?_
            exact j_pick [2, 3, 4, 5, 6, 1, 0] rfl h)
          refine j_if_ne o (tgt := 53) dX12_shareOf_44 (by decide) (fun c12 => ?_) (fun c12 => ?_)
          · replace h := h.1 c12
            refine j_iload_n o dX12_shareOf_53 rfl ?_
            refine j_iload o dX12_shareOf_54 rfl ?_
            refine j_callSi o (c_X12_has l P a2 x6 M N _ h) dX12_shareOf_56 jc_X12_157 jn_X12_has rfl rfl rfl rfl (fun r13 Mz14 Nz15 h => ?_)
            obtain ⟨rfl, rfl, h⟩ := h
            refine j_if_eq o (tgt := 79) dX12_shareOf_59 (by decide) (fun c16 => ?_) (fun c16 => ?_)
            · replace h := h.1 c16
              refine j_bipush o (v := 10) dX12_shareOf_79 rfl ?_
              refine j_aload_n o dX12_shareOf_81 rfl ?_
              refine j_getf o (g := 1) (slot := 30) (ci := 12) (v := .ref (P.1 18)) rfl jin_X12 (by decide) rfl jf_X12_60 (fun _ => rfl) rfl dX12_shareOf_82 ?_
              refine j_bipush o (v := 9) dX12_shareOf_85 rfl ?_
              refine j_iload o dX12_shareOf_87 rfl ?_
              refine j_imul o dX12_shareOf_89 ?_
              refine j_iload o dX12_shareOf_90 rfl ?_
              refine j_iadd o dX12_shareOf_92 ?_
              obtain ⟨hb17, h⟩ := h
              refine j_iald o (g := 18) (fun _ => rfl) hb17 dX12_shareOf_93 ?_
              refine j_isub o dX12_shareOf_94 ?_
              refine j_i2l o dX12_shareOf_95 ?_
              exact j_pick [0, 1, 2, 3, 4, 6] rfl h
            · replace h := h.2 c16
              refine j_aload_n o dX12_shareOf_62 rfl ?_
              refine j_getf o (g := 1) (slot := 30) (ci := 12) (v := .ref (P.1 18)) rfl jin_X12 (by decide) rfl jf_X12_60 (fun _ => rfl) rfl dX12_shareOf_63 ?_
              refine j_bipush o (v := 9) dX12_shareOf_66 rfl ?_
              refine j_iload o dX12_shareOf_68 rfl ?_
              refine j_imul o dX12_shareOf_70 ?_
              refine j_iload o dX12_shareOf_71 rfl ?_
              refine j_iadd o dX12_shareOf_73 ?_
              obtain ⟨hb18, h⟩ := h
              refine j_iald o (g := 18) (fun _ => rfl) hb18 dX12_shareOf_74 ?_
              refine j_i2l o dX12_shareOf_75 ?_
              refine j_goto o (tgt := 96) dX12_shareOf_76 (by decide) ?_
              exact j_pick [0, 1, 2, 3, 4, 6] rfl h
          · replace h := h.2 c12
            refine j_ldc2 o jk_X12_283 dX12_shareOf_47 ?_
            refine j_goto o (tgt := 96) dX12_shareOf_50 (by decide) ?_
            exact j_pick [0, 1, 2, 3, 4, 6] rfl h)
      exact j_pick [2, 3, 4, 5, 6, 1, 0] rfl h)
  exact j_pick [2, 3, 4, 1, 0] rfl h

abbrev rm_X12_share : Room := { frames := 2, cells := 0, slots := 0, locals := 49 }
def w_X12_share (P : jP) (a1 : Int32) (a2 : Int32) (M : jM) (Q : Int64 → jM → Prop) : Prop :=
  w_X12_isKnown P a1 a2 (upM M 1 0 0) (fun r1 =>
  (r1 = 0 → (
   Q (-1) (upM M 1 0 0)
  )) ∧ (¬ r1 = 0 → (
   w_X12_shareOf P a1 a2 (upM M 1 0 0) (fun r5 =>
   Q r5 (upM M 1 0 0))
  )))
set_option maxRecDepth 20000 in
theorem c_X12_share (l : Launch) (P : jP) (a1 : Int32) (a2 : Int32) (M : jM) (N : jN) (Q : Int64 → jM → Prop) (h : w_X12_share P a1 a2 M Q) : jC l yX12_share cX12_share 3 (some .long) rm_X12_share LM [.ref (P.1 1), .int a1, .int a2] P M N (jql P (fun r M' N' => N = N' ∧ Q r M' )) := by
  refine jC_of (by decide +kernel) [(0, .ref (P.1 1)), (1, .int a1), (2, .int a2)] (Nat.le_of_ble_eq_true rfl) rfl (fun X o => ?_)
  obtain ⟨E, hE⟩ : ∃ E, E = jE X rm_X12_share (jql P (fun r M' N' => N = N' ∧ Q r M' )) := ⟨_, rfl⟩
  rw [← hE]
  unfold w_X12_share at h
  refine j_aload_n o dX12_share_0 rfl ?_
  refine j_iconst o (v := 0) dX12_share_1 rfl ?_
  refine j_putf o (M1 := upM M 1 0 0) (N1 := N) (g := 1) (slot := 0) (ci := 12) (ty := .int) rfl jin_X12 tyX12_ok nmX12 (by decide) rfl rfl jf_X12_114 (by decide +kernel) rfl rfl (Nat.le_of_ble_eq_true rfl) (fun _ => rfl) (fun _ => rfl) (fun _ hj => upM_ne _ _ _ hj) (fun _ _ => rfl) dX12_share_2 ?_
  refine j_aload_n o dX12_share_5 rfl ?_
  refine j_iload_n o dX12_share_6 rfl ?_
  refine j_iload_n o dX12_share_7 rfl ?_
  refine j_callVi (g := 1) (ci := 12) o (c_X12_isKnown l P a1 a2 (upM M 1 0 0) N _ h) dX12_share_8 jc_X12_245 jn_X12_isKnown rfl rfl rfl (fun _ => rfl) rfl rfl (fun r1 Mz2 Nz3 h => ?_)
  obtain ⟨rfl, rfl, h⟩ := h
  refine j_if_eq o (tgt := 23) dX12_share_11 (by decide) (fun c4 => ?_) (fun c4 => ?_)
  · replace h := h.1 c4
    refine j_ldc2 o jk_X12_289 dX12_share_23 ?_
    rw [hE]
    exact j_lret o dX12_share_26 ⟨_, rfl, rfl, rfl, h⟩
  · replace h := h.2 c4
    refine j_aload_n o dX12_share_14 rfl ?_
    refine j_iload_n o dX12_share_15 rfl ?_
    refine j_iload_n o dX12_share_16 rfl ?_
    refine j_callVl (g := 1) (ci := 12) o (c_X12_shareOf l P a1 a2 (upM M 1 0 0) N _ h) dX12_share_17 jc_X12_285 jn_X12_shareOf rfl rfl rfl (fun _ => rfl) rfl rfl (fun r5 Mz6 Nz7 h => ?_)
    obtain ⟨rfl, rfl, h⟩ := h
    refine j_goto o (tgt := 26) dX12_share_20 (by decide) ?_
    rw [hE]
    exact j_lret o dX12_share_26 ⟨_, rfl, rfl, rfl, h⟩

abbrev rm_X12_state : Room := { frames := 0, cells := 0, slots := 0, locals := 0 }
def w_X12_state (P : jP) (a1 : Int32) (a2 : Int32) (Q : Int32 → Prop) : Prop :=
  Q ((a1 <<< (9 &&& 31)) ||| a2)
set_option maxRecDepth 20000 in
theorem c_X12_state (l : Launch) (P : jP) (a1 : Int32) (a2 : Int32) (M : jM) (N : jN) (Q : Int32 → Prop) (h : w_X12_state P a1 a2 Q) : jC l yX12_state cX12_state 3 (some .int) rm_X12_state LM [.ref (P.1 1), .int a1, .int a2] P M N (jqi P (fun r M' N' => M = M' ∧ N = N' ∧ Q r )) := by
  refine jC_of (by decide +kernel) [(0, .ref (P.1 1)), (1, .int a1), (2, .int a2)] (Nat.le_of_ble_eq_true rfl) rfl (fun X o => ?_)
  obtain ⟨E, hE⟩ : ∃ E, E = jE X rm_X12_state (jqi P (fun r M' N' => M = M' ∧ N = N' ∧ Q r )) := ⟨_, rfl⟩
  rw [← hE]
  unfold w_X12_state at h
  refine j_iload_n o dX12_state_0 rfl ?_
  refine j_bipush o (v := 9) dX12_state_1 rfl ?_
  refine j_ishl o dX12_state_3 ?_
  refine j_iload_n o dX12_state_4 rfl ?_
  refine j_ior o dX12_state_5 ?_
  rw [hE]
  exact j_iret o dX12_state_6 ⟨_, rfl, rfl, rfl, rfl, h⟩

abbrev rm_X12_joined : Room := { frames := 1, cells := 0, slots := 0, locals := 22 }
def w_X12_joined (P : jP) (a1 : Nat) (a2 : Int32) (a3 : Int32) (a4 : Int32) (M : jM) (Q : Int32 → Prop) : Prop :=
  w_X12_state P (a2 ||| ((1 : Int32) <<< (a4 &&& 31))) a3 (fun r1 =>
  jinM a1 r1 ∧
  w_X12_state P (a2 ||| ((1 : Int32) <<< (a4 &&& 31))) (a3 ||| ((1 : Int32) <<< (a4 &&& 31))) (fun r5 =>
  jinM a1 r5 ∧
  (¬ (M a1 r1.toNatClampNeg) = (M a1 r5.toNatClampNeg) → (
   Q (-2)
  )) ∧ ((M a1 r1.toNatClampNeg) = (M a1 r5.toNatClampNeg) → (
   Q (M a1 r1.toNatClampNeg)
  ))))
set_option maxRecDepth 20000 in
theorem c_X12_joined (l : Launch) (P : jP) (a1 : Nat) (a2 : Int32) (a3 : Int32) (a4 : Int32) (M : jM) (N : jN) (Q : Int32 → Prop) (h : w_X12_joined P a1 a2 a3 a4 M Q) : jC l yX12_joined cX12_joined 7 (some .int) rm_X12_joined LM [.ref (P.1 1), .ref (P.1 a1), .int a2, .int a3, .int a4] P M N (jqi P (fun r M' N' => M = M' ∧ N = N' ∧ Q r )) := by
  refine jC_of (by decide +kernel) [(0, .ref (P.1 1)), (1, .ref (P.1 a1)), (2, .int a2), (3, .int a3), (4, .int a4)] (Nat.le_of_ble_eq_true rfl) rfl (fun X o => ?_)
  obtain ⟨E, hE⟩ : ∃ E, E = jE X rm_X12_joined (jqi P (fun r M' N' => M = M' ∧ N = N' ∧ Q r )) := ⟨_, rfl⟩
  rw [← hE]
  unfold w_X12_joined at h
  refine j_aload_n o dX12_joined_0 rfl ?_
  refine j_aload_n o dX12_joined_1 rfl ?_
  refine j_iload_n o dX12_joined_2 rfl ?_
  refine j_iconst o (v := 1) dX12_joined_3 rfl ?_
  refine j_iload o dX12_joined_4 rfl ?_
  refine j_ishl o dX12_joined_6 ?_
  refine j_ior o dX12_joined_7 ?_
  refine j_iload_n o dX12_joined_8 rfl ?_
  refine j_callVi (g := 1) (ci := 12) o (c_X12_state l P (a2 ||| ((1 : Int32) <<< (a4 &&& 31))) a3 M N _ h) dX12_joined_9 jc_X12_291 jn_X12_state rfl rfl rfl (fun _ => rfl) rfl rfl (fun r1 Mz2 Nz3 h => ?_)
  obtain ⟨rfl, rfl, h⟩ := h
  obtain ⟨hb4, h⟩ := h
  obtain ⟨nnhb4, hchb4, hihb4⟩ := hb4
  refine j_iald o (g := a1) (fun tA => LM_ia hchb4 tA _ _) hihb4 dX12_joined_12 ?_
  refine j_istore o [(5, .int (M a1 r1.toNatClampNeg)), (0, .ref (P.1 1)), (1, .ref (P.1 a1)), (2, .int a2), (3, .int a3), (4, .int a4)] dX12_joined_13 (by decide) rfl ?_
  refine j_aload_n o dX12_joined_15 rfl ?_
  refine j_aload_n o dX12_joined_16 rfl ?_
  refine j_iload_n o dX12_joined_17 rfl ?_
  refine j_iconst o (v := 1) dX12_joined_18 rfl ?_
  refine j_iload o dX12_joined_19 rfl ?_
  refine j_ishl o dX12_joined_21 ?_
  refine j_ior o dX12_joined_22 ?_
  refine j_iload_n o dX12_joined_23 rfl ?_
  refine j_iconst o (v := 1) dX12_joined_24 rfl ?_
  refine j_iload o dX12_joined_25 rfl ?_
  refine j_ishl o dX12_joined_27 ?_
  refine j_ior o dX12_joined_28 ?_
  refine j_callVi (g := 1) (ci := 12) o (c_X12_state l P (a2 ||| ((1 : Int32) <<< (a4 &&& 31))) (a3 ||| ((1 : Int32) <<< (a4 &&& 31))) M N _ h) dX12_joined_29 jc_X12_291 jn_X12_state rfl rfl rfl (fun _ => rfl) rfl rfl (fun r5 Mz6 Nz7 h => ?_)
  obtain ⟨rfl, rfl, h⟩ := h
  obtain ⟨hb8, h⟩ := h
  obtain ⟨nnhb8, hchb8, hihb8⟩ := hb8
  refine j_iald o (g := a1) (fun tA => LM_ia hchb8 tA _ _) hihb8 dX12_joined_32 ?_
  refine j_istore o [(6, .int (M a1 r5.toNatClampNeg)), (5, .int (M a1 r1.toNatClampNeg)), (0, .ref (P.1 1)), (1, .ref (P.1 a1)), (2, .int a2), (3, .int a3), (4, .int a4)] dX12_joined_33 (by decide) rfl ?_
  refine j_iload o dX12_joined_35 rfl ?_
  refine j_iload o dX12_joined_37 rfl ?_
  refine j_icmp_ne o (tgt := 47) dX12_joined_39 (by decide) (fun c9 => ?_) (fun c9 => ?_)
  · replace h := h.1 c9
    refine j_bipush o (v := (-2)) dX12_joined_47 rfl ?_
    rw [hE]
    exact j_iret o dX12_joined_49 ⟨_, rfl, rfl, rfl, rfl, h⟩
  · replace h := h.2 c9
    refine j_iload o dX12_joined_42 rfl ?_
    refine j_goto o (tgt := 49) dX12_joined_44 (by decide) ?_
    rw [hE]
    exact j_iret o dX12_joined_49 ⟨_, rfl, rfl, rfl, rfl, h⟩

abbrev rm_X12_isOut : Room := { frames := 0, cells := 0, slots := 0, locals := 0 }
def w_X12_isOut (P : jP) (a1 : Int32) (a2 : Int32) (M : jM) (Q : Int32 → Prop) : Prop :=
  vp_in a1 (262144) ∧
  ((M 19 a1.toNatClampNeg) = (-2) → (
   Q 0
  )) ∧ (¬ (M 19 a1.toNatClampNeg) = (-2) → (
   (a2 = 0 → (
    Q 1
   )) ∧ (¬ a2 = 0 → (
    vp_in a1 (262144) ∧
    ((M 20 a1.toNatClampNeg) = (-2) → (
     Q 0
    )) ∧ (¬ (M 20 a1.toNatClampNeg) = (-2) → (
     Q 1
    ))
   ))
  ))
set_option maxRecDepth 20000 in
theorem c_X12_isOut (l : Launch) (P : jP) (a1 : Int32) (a2 : Int32) (M : jM) (N : jN) (Q : Int32 → Prop) (h : w_X12_isOut P a1 a2 M Q) : jC l yX12_isOut cX12_isOut 3 (some .boolean) rm_X12_isOut LM [.ref (P.1 1), .int a1, .int a2] P M N (jqi P (fun r M' N' => M = M' ∧ N = N' ∧ Q r )) := by
  refine jC_of (by decide +kernel) [(0, .ref (P.1 1)), (1, .int a1), (2, .int a2)] (Nat.le_of_ble_eq_true rfl) rfl (fun X o => ?_)
  obtain ⟨E, hE⟩ : ∃ E, E = jE X rm_X12_isOut (jqi P (fun r M' N' => M = M' ∧ N = N' ∧ Q r )) := ⟨_, rfl⟩
  rw [← hE]
  unfold w_X12_isOut at h
  refine j_aload_n o dX12_isOut_0 rfl ?_
  refine j_getf o (g := 1) (slot := 32) (ci := 12) (v := .ref (P.1 19)) rfl jin_X12 (by decide) rfl jf_X12_64 (fun _ => rfl) rfl dX12_isOut_1 ?_
  refine j_iload_n o dX12_isOut_4 rfl ?_
  obtain ⟨hb1, h⟩ := h
  refine j_iald o (g := 19) (fun _ => rfl) hb1 dX12_isOut_5 ?_
  refine j_bipush o (v := (-2)) dX12_isOut_6 rfl ?_
  refine j_icmp_eq o (tgt := 30) dX12_isOut_8 (by decide) (fun c2 => ?_) (fun c2 => ?_)
  · replace h := h.1 c2
    refine j_iconst o (v := 0) dX12_isOut_30 rfl ?_
    rw [hE]
    exact j_zret o rfl dX12_isOut_31 ⟨_, rfl, rfl, rfl, rfl, h⟩
  · replace h := h.2 c2
    refine j_iload_n o dX12_isOut_11 rfl ?_
    refine j_if_eq o (tgt := 26) dX12_isOut_12 (by decide) (fun c3 => ?_) (fun c3 => ?_)
    · replace h := h.1 c3
      refine j_iconst o (v := 1) dX12_isOut_26 rfl ?_
      refine j_goto o (tgt := 31) dX12_isOut_27 (by decide) ?_
      rw [hE]
      exact j_zret o rfl dX12_isOut_31 ⟨_, rfl, rfl, rfl, rfl, h⟩
    · replace h := h.2 c3
      refine j_aload_n o dX12_isOut_15 rfl ?_
      refine j_getf o (g := 1) (slot := 33) (ci := 12) (v := .ref (P.1 20)) rfl jin_X12 (by decide) rfl jf_X12_67 (fun _ => rfl) rfl dX12_isOut_16 ?_
      refine j_iload_n o dX12_isOut_19 rfl ?_
      obtain ⟨hb4, h⟩ := h
      refine j_iald o (g := 20) (fun _ => rfl) hb4 dX12_isOut_20 ?_
      refine j_bipush o (v := (-2)) dX12_isOut_21 rfl ?_
      refine j_icmp_eq o (tgt := 30) dX12_isOut_23 (by decide) (fun c5 => ?_) (fun c5 => ?_)
      · replace h := h.1 c5
        refine j_iconst o (v := 0) dX12_isOut_30 rfl ?_
        rw [hE]
        exact j_zret o rfl dX12_isOut_31 ⟨_, rfl, rfl, rfl, rfl, h⟩
      · replace h := h.2 c5
        refine j_iconst o (v := 1) dX12_isOut_26 rfl ?_
        refine j_goto o (tgt := 31) dX12_isOut_27 (by decide) ?_
        rw [hE]
        exact j_zret o rfl dX12_isOut_31 ⟨_, rfl, rfl, rfl, rfl, h⟩

abbrev rm_X12_meanBy : Room := { frames := 2, cells := 0, slots := 0, locals := 49 }
def w_X12_meanBy (P : jP) (a1 : Int32) (a2 : Int32) (a3 : Int32) (M : jM) (N : jN) (Q : Int64 → Prop) : Prop :=
  w_X12_state P (a1 ||| ((1 : Int32) <<< (a3 &&& 31))) a2 (fun r1 =>
  vp_in r1 (262144) ∧
  w_X12_state P (a1 ||| ((1 : Int32) <<< (a3 &&& 31))) (a2 ||| ((1 : Int32) <<< (a3 &&& 31))) (fun r5 =>
  vp_in r5 (262144) ∧
  (0 ≤ (lg_cmp (N 22 r1.toNatClampNeg) 1000000000000000) → (
   Q 1000000000000000
  )) ∧ (¬ 0 ≤ (lg_cmp (N 22 r1.toNatClampNeg) 1000000000000000) → (
   ((lg_cmp (N 22 r5.toNatClampNeg) 1000000000000000) < 0 → (
    w_X12_shareOf P a1 a2 M (fun r11 =>
    vp_in a3 (9) ∧
    Q (((r11 * ((M 12 a3.toNatClampNeg).toInt64)) + (N 22 r1.toNatClampNeg)) + (N 22 r5.toNatClampNeg)))
   )) ∧ (¬ (lg_cmp (N 22 r5.toNatClampNeg) 1000000000000000) < 0 → (
    Q 1000000000000000
   ))
  ))))
set_option maxRecDepth 20000 in
theorem c_X12_meanBy (l : Launch) (P : jP) (a1 : Int32) (a2 : Int32) (a3 : Int32) (M : jM) (N : jN) (Q : Int64 → Prop) (h : w_X12_meanBy P a1 a2 a3 M N Q) : jC l yX12_meanBy cX12_meanBy 8 (some .long) rm_X12_meanBy LM [.ref (P.1 1), .int a1, .int a2, .int a3] P M N (jql P (fun r M' N' => M = M' ∧ N = N' ∧ Q r )) := by
  refine jC_of (by decide +kernel) [(0, .ref (P.1 1)), (1, .int a1), (2, .int a2), (3, .int a3)] (Nat.le_of_ble_eq_true rfl) rfl (fun X o => ?_)
  obtain ⟨E, hE⟩ : ∃ E, E = jE X rm_X12_meanBy (jql P (fun r M' N' => M = M' ∧ N = N' ∧ Q r )) := ⟨_, rfl⟩
  rw [← hE]
  unfold w_X12_meanBy at h
  refine j_aload_n o dX12_meanBy_0 rfl ?_
  refine j_getf o (g := 1) (slot := 35) (ci := 12) (v := .ref (P.1 22)) rfl jin_X12 (by decide) rfl jf_X12_73 (fun _ => rfl) rfl dX12_meanBy_1 ?_
  refine j_aload_n o dX12_meanBy_4 rfl ?_
  refine j_iload_n o dX12_meanBy_5 rfl ?_
  refine j_iconst o (v := 1) dX12_meanBy_6 rfl ?_
  refine j_iload_n o dX12_meanBy_7 rfl ?_
  refine j_ishl o dX12_meanBy_8 ?_
  refine j_ior o dX12_meanBy_9 ?_
  refine j_iload_n o dX12_meanBy_10 rfl ?_
  refine j_callVi (g := 1) (ci := 12) o (c_X12_state l P (a1 ||| ((1 : Int32) <<< (a3 &&& 31))) a2 M N _ h) dX12_meanBy_11 jc_X12_291 jn_X12_state rfl rfl rfl (fun _ => rfl) rfl rfl (fun r1 Mz2 Nz3 h => ?_)
  obtain ⟨rfl, rfl, h⟩ := h
  obtain ⟨hb4, h⟩ := h
  refine j_lald o (g := 22) (fun _ => rfl) hb4 dX12_meanBy_14 ?_
  refine j_lstore o [(4, .long (N 22 r1.toNatClampNeg)), (0, .ref (P.1 1)), (1, .int a1), (2, .int a2), (3, .int a3)] dX12_meanBy_15 (by decide) rfl ?_
  refine j_aload_n o dX12_meanBy_17 rfl ?_
  refine j_getf o (g := 1) (slot := 35) (ci := 12) (v := .ref (P.1 22)) rfl jin_X12 (by decide) rfl jf_X12_73 (fun _ => rfl) rfl dX12_meanBy_18 ?_
  refine j_aload_n o dX12_meanBy_21 rfl ?_
  refine j_iload_n o dX12_meanBy_22 rfl ?_
  refine j_iconst o (v := 1) dX12_meanBy_23 rfl ?_
  refine j_iload_n o dX12_meanBy_24 rfl ?_
  refine j_ishl o dX12_meanBy_25 ?_
  refine j_ior o dX12_meanBy_26 ?_
  refine j_iload_n o dX12_meanBy_27 rfl ?_
  refine j_iconst o (v := 1) dX12_meanBy_28 rfl ?_
  refine j_iload_n o dX12_meanBy_29 rfl ?_
  refine j_ishl o dX12_meanBy_30 ?_
  refine j_ior o dX12_meanBy_31 ?_
  refine j_callVi (g := 1) (ci := 12) o (c_X12_state l P (a1 ||| ((1 : Int32) <<< (a3 &&& 31))) (a2 ||| ((1 : Int32) <<< (a3 &&& 31))) M N _ h) dX12_meanBy_32 jc_X12_291 jn_X12_state rfl rfl rfl (fun _ => rfl) rfl rfl (fun r5 Mz6 Nz7 h => ?_)
  obtain ⟨rfl, rfl, h⟩ := h
  obtain ⟨hb8, h⟩ := h
  refine j_lald o (g := 22) (fun _ => rfl) hb8 dX12_meanBy_35 ?_
  refine j_lstore o [(6, .long (N 22 r5.toNatClampNeg)), (4, .long (N 22 r1.toNatClampNeg)), (0, .ref (P.1 1)), (1, .int a1), (2, .int a2), (3, .int a3)] dX12_meanBy_36 (by decide) rfl ?_
  refine j_lload o dX12_meanBy_38 rfl ?_
  refine j_ldc2 o jk_X12_294 dX12_meanBy_40 ?_
  refine j_lcmp o dX12_meanBy_43 ?_
  refine j_if_ge o (tgt := 56) dX12_meanBy_44 (by decide) (fun c9 => ?_) (fun c9 => ?_)
  · replace h := h.1 c9
    refine j_ldc2 o jk_X12_294 dX12_meanBy_56 ?_
    refine j_goto o (tgt := 82) dX12_meanBy_59 (by decide) ?_
    rw [hE]
    exact j_lret o dX12_meanBy_82 ⟨_, rfl, rfl, rfl, rfl, h⟩
  · replace h := h.2 c9
    refine j_lload o dX12_meanBy_47 rfl ?_
    refine j_ldc2 o jk_X12_294 dX12_meanBy_49 ?_
    refine j_lcmp o dX12_meanBy_52 ?_
    refine j_if_lt o (tgt := 62) dX12_meanBy_53 (by decide) (fun c10 => ?_) (fun c10 => ?_)
    · replace h := h.1 c10
      refine j_aload_n o dX12_meanBy_62 rfl ?_
      refine j_iload_n o dX12_meanBy_63 rfl ?_
      refine j_iload_n o dX12_meanBy_64 rfl ?_
      refine j_callVl (g := 1) (ci := 12) o (c_X12_shareOf l P a1 a2 M N _ h) dX12_meanBy_65 jc_X12_285 jn_X12_shareOf rfl rfl rfl (fun _ => rfl) rfl rfl (fun r11 Mz12 Nz13 h => ?_)
      obtain ⟨rfl, rfl, h⟩ := h
      refine j_aload_n o dX12_meanBy_68 rfl ?_
      refine j_getf o (g := 1) (slot := 21) (ci := 12) (v := .ref (P.1 12)) rfl jin_X12 (by decide) rfl jf_X12_41 (fun _ => rfl) rfl dX12_meanBy_69 ?_
      refine j_iload_n o dX12_meanBy_72 rfl ?_
      obtain ⟨hb14, h⟩ := h
      refine j_iald o (g := 12) (fun _ => rfl) hb14 dX12_meanBy_73 ?_
      refine j_i2l o dX12_meanBy_74 ?_
      refine j_lmul o dX12_meanBy_75 ?_
      refine j_lload o dX12_meanBy_76 rfl ?_
      refine j_ladd o dX12_meanBy_78 ?_
      refine j_lload o dX12_meanBy_79 rfl ?_
      refine j_ladd o dX12_meanBy_81 ?_
      rw [hE]
      exact j_lret o dX12_meanBy_82 ⟨_, rfl, rfl, rfl, rfl, h⟩
    · replace h := h.2 c10
      refine j_ldc2 o jk_X12_294 dX12_meanBy_56 ?_
      refine j_goto o (tgt := 82) dX12_meanBy_59 (by decide) ?_
      rw [hE]
      exact j_lret o dX12_meanBy_82 ⟨_, rfl, rfl, rfl, rfl, h⟩

abbrev rm_X12_worstBy : Room := { frames := 1, cells := 0, slots := 0, locals := 23 }
def w_X12_worstBy (P : jP) (a1 : Int32) (a2 : Int32) (a3 : Int32) (M : jM) (Q : Int32 → Prop) : Prop :=
  w_X12_state P (a1 ||| ((1 : Int32) <<< (a3 &&& 31))) a2 (fun r1 =>
  vp_in r1 (262144) ∧
  w_X12_state P (a1 ||| ((1 : Int32) <<< (a3 &&& 31))) (a2 ||| ((1 : Int32) <<< (a3 &&& 31))) (fun r5 =>
  vp_in r5 (262144) ∧
  ∀ y9 : Int32, y9 = (if (M 21 r1.toNatClampNeg) < (M 21 r5.toNatClampNeg) then (M 21 r5.toNatClampNeg) else (M 21 r1.toNatClampNeg)) →
  (y9 < 1000000 → (
   vp_in a3 (9) ∧
   Q (y9 + (M 12 a3.toNatClampNeg))
  )) ∧ (¬ y9 < 1000000 → (
   Q 1000000
  ))))
set_option maxRecDepth 20000 in
theorem c_X12_worstBy (l : Launch) (P : jP) (a1 : Int32) (a2 : Int32) (a3 : Int32) (M : jM) (N : jN) (Q : Int32 → Prop) (h : w_X12_worstBy P a1 a2 a3 M Q) : jC l yX12_worstBy cX12_worstBy 5 (some .int) rm_X12_worstBy LM [.ref (P.1 1), .int a1, .int a2, .int a3] P M N (jqi P (fun r M' N' => M = M' ∧ N = N' ∧ Q r )) := by
  refine jC_of (by decide +kernel) [(0, .ref (P.1 1)), (1, .int a1), (2, .int a2), (3, .int a3)] (Nat.le_of_ble_eq_true rfl) rfl (fun X o => ?_)
  obtain ⟨E, hE⟩ : ∃ E, E = jE X rm_X12_worstBy (jqi P (fun r M' N' => M = M' ∧ N = N' ∧ Q r )) := ⟨_, rfl⟩
  rw [← hE]
  unfold w_X12_worstBy at h
  refine j_aload_n o dX12_worstBy_0 rfl ?_
  refine j_getf o (g := 1) (slot := 34) (ci := 12) (v := .ref (P.1 21)) rfl jin_X12 (by decide) rfl jf_X12_70 (fun _ => rfl) rfl dX12_worstBy_1 ?_
  refine j_aload_n o dX12_worstBy_4 rfl ?_
  refine j_iload_n o dX12_worstBy_5 rfl ?_
  refine j_iconst o (v := 1) dX12_worstBy_6 rfl ?_
  refine j_iload_n o dX12_worstBy_7 rfl ?_
  refine j_ishl o dX12_worstBy_8 ?_
  refine j_ior o dX12_worstBy_9 ?_
  refine j_iload_n o dX12_worstBy_10 rfl ?_
  refine j_callVi (g := 1) (ci := 12) o (c_X12_state l P (a1 ||| ((1 : Int32) <<< (a3 &&& 31))) a2 M N _ h) dX12_worstBy_11 jc_X12_291 jn_X12_state rfl rfl rfl (fun _ => rfl) rfl rfl (fun r1 Mz2 Nz3 h => ?_)
  obtain ⟨rfl, rfl, h⟩ := h
  obtain ⟨hb4, h⟩ := h
  refine j_iald o (g := 21) (fun _ => rfl) hb4 dX12_worstBy_14 ?_
  refine j_aload_n o dX12_worstBy_15 rfl ?_
  refine j_getf o (g := 1) (slot := 34) (ci := 12) (v := .ref (P.1 21)) rfl jin_X12 (by decide) rfl jf_X12_70 (fun _ => rfl) rfl dX12_worstBy_16 ?_
  refine j_aload_n o dX12_worstBy_19 rfl ?_
  refine j_iload_n o dX12_worstBy_20 rfl ?_
  refine j_iconst o (v := 1) dX12_worstBy_21 rfl ?_
  refine j_iload_n o dX12_worstBy_22 rfl ?_
  refine j_ishl o dX12_worstBy_23 ?_
  refine j_ior o dX12_worstBy_24 ?_
  refine j_iload_n o dX12_worstBy_25 rfl ?_
  refine j_iconst o (v := 1) dX12_worstBy_26 rfl ?_
  refine j_iload_n o dX12_worstBy_27 rfl ?_
  refine j_ishl o dX12_worstBy_28 ?_
  refine j_ior o dX12_worstBy_29 ?_
  refine j_callVi (g := 1) (ci := 12) o (c_X12_state l P (a1 ||| ((1 : Int32) <<< (a3 &&& 31))) (a2 ||| ((1 : Int32) <<< (a3 &&& 31))) M N _ h) dX12_worstBy_30 jc_X12_291 jn_X12_state rfl rfl rfl (fun _ => rfl) rfl rfl (fun r5 Mz6 Nz7 h => ?_)
  obtain ⟨rfl, rfl, h⟩ := h
  obtain ⟨hb8, h⟩ := h
  refine j_iald o (g := 21) (fun _ => rfl) hb8 dX12_worstBy_33 ?_
  refine j_mmax o dX12_worstBy_34 jc_X12_104 rfl ?_
  refine j_topi (fun y9 hy9 => ?_)
  replace h := h y9 hy9
  refine j_istore o [(4, .int y9), (0, .ref (P.1 1)), (1, .int a1), (2, .int a2), (3, .int a3)] dX12_worstBy_37 (by decide) rfl ?_
  refine j_iload o dX12_worstBy_39 rfl ?_
  refine j_ldc_w o jk_X12_296 dX12_worstBy_41 ?_
  refine j_icmp_lt o (tgt := 53) dX12_worstBy_44 (by decide) (fun c10 => ?_) (fun c10 => ?_)
  · replace h := h.1 c10
    refine j_iload o dX12_worstBy_53 rfl ?_
    refine j_aload_n o dX12_worstBy_55 rfl ?_
    refine j_getf o (g := 1) (slot := 21) (ci := 12) (v := .ref (P.1 12)) rfl jin_X12 (by decide) rfl jf_X12_41 (fun _ => rfl) rfl dX12_worstBy_56 ?_
    refine j_iload_n o dX12_worstBy_59 rfl ?_
    obtain ⟨hb11, h⟩ := h
    refine j_iald o (g := 12) (fun _ => rfl) hb11 dX12_worstBy_60 ?_
    refine j_iadd o dX12_worstBy_61 ?_
    rw [hE]
    exact j_iret o dX12_worstBy_62 ⟨_, rfl, rfl, rfl, rfl, h⟩
  · replace h := h.2 c10
    refine j_ldc_w o jk_X12_296 dX12_worstBy_47 ?_
    refine j_goto o (tgt := 62) dX12_worstBy_50 (by decide) ?_
    rw [hE]
    exact j_iret o dX12_worstBy_62 ⟨_, rfl, rfl, rfl, rfl, h⟩

abbrev rm_X12_layState : Room := { frames := 3, cells := 0, slots := 0, locals := 76 }
def w_X12_layState (P : jP) (a1 : Int32) (a2 : Int32) (a3 : Int32) (a4 : Int32) (M : jM) (N : jN) (Q : jM → jN → Prop) : Prop :=
  w_X12_state P a3 a4 (fun r1 =>
  ∀ R19 : Int32 → Prop, (∀ (x4 : Int32), (
   ∀ R119 : jM → Prop, (∀ (M5 : jM), (
    w_X12_isOut P r1 x4 M5 (fun r6 =>
    ∀ R143 : Int64 → Prop, (∀ (x9 : Int64), (
     vp_in r1 (262144) ∧
     w_X12_isOut P r1 x4 M5 (fun r11 =>
     ∀ R168 : Int32 → Prop, (∀ (x14 : Int32), (
      vp_in r1 (262144) ∧
      ∀ R172 : Int32 → jM → jN → Prop, (∀ (x16 : Int32) (M17 : jM) (N18 : jN), (
       ((M17 1 1) ≤ x16 → (
        Q M17 N18
       )) ∧ (¬ (M17 1 1) ≤ x16 → (
        w_X12_isOut P r1 x4 M17 (fun r20 =>
        (¬ r20 = 0 → (
         Q M17 N18
        )) ∧ (r20 = 0 → (
         w_X12_has P a3 x16 (fun r24 =>
         ∀ R266 : jM → jN → Prop, (∀ (M27 : jM) (N28 : jN), (
          R172 (x16 + 1) M27 N28
         ) → R266 M27 N28) →
         (¬ r24 = 0 → (
          R266 M17 N18
         )) ∧ (r24 = 0 → (
          vp_in x16 (9) ∧
          ((M17 15 x16.toNatClampNeg) = 0 → (
           vp_in r1 (262144) ∧
           w_X12_meanBy P a3 a4 x16 M17 N18 (fun r33 =>
           vp_in r1 (262144) ∧
           ∀ N37 : jN, N37 = upN N18 22 r1.toNatClampNeg (if r33 < (N18 22 r1.toNatClampNeg) then r33 else (N18 22 r1.toNatClampNeg)) →
           vp_in r1 (262144) ∧
           w_X12_worstBy P a3 a4 x16 M17 (fun r39 =>
           vp_in r1 (262144) ∧
           ∀ M43 : jM, M43 = upM M17 21 r1.toNatClampNeg (if r39 < (M17 21 r1.toNatClampNeg) then r39 else (M17 21 r1.toNatClampNeg)) →
           R266 M43 N37))
          )) ∧ (¬ (M17 15 x16.toNatClampNeg) = 0 → (
           R266 M17 N18
          ))
         )))
        )))
       ))
      ) → R172 x16 M17 N18) →
      R172 0 (upM M5 21 r1.toNatClampNeg x14) (upN N 22 r1.toNatClampNeg x9)
     ) → R168 x14) →
     (r11 = 0 → (
      R168 1000000
     )) ∧ (¬ r11 = 0 → (
      R168 0
     )))
    ) → R143 x9) →
    (r6 = 0 → (
     R143 1000000000000000
    )) ∧ (¬ r6 = 0 → (
     R143 0
    )))
   ) → R119 M5) →
   (¬ a3 = ((M 1 2) - 1) → (
    w_J6_numberOfTrailingZeros_0f7a4 P (a3 ^^^ (-1)) (fun r47 =>
    w_X12_joined P 19 a3 a4 r47 M (fun r50 =>
    vp_in r1 (262144) ∧
    w_X12_joined P 20 a3 a4 r47 (upM M 19 r1.toNatClampNeg r50) (fun r54 =>
    vp_in r1 (262144) ∧
    ∀ M58 : jM, M58 = upM (upM M 19 r1.toNatClampNeg r50) 20 r1.toNatClampNeg r54 →
    R119 M58)))
   )) ∧ (a3 = ((M 1 2) - 1) → (
    w_X12_saidOn P a1 a4 M (fun r59 =>
    vp_in r1 (262144) ∧
    ∀ R67 : Int32 → Prop, (∀ (x63 : Int32), (
     vp_in r1 (262144) ∧
     ∀ M65 : jM, M65 = upM (upM M 19 r1.toNatClampNeg r59) 20 r1.toNatClampNeg x63 →
     R119 M65
    ) → R67 x63) →
    (x4 = 0 → (
     R67 0
    )) ∧ (¬ x4 = 0 → (
     w_X12_saidOn P a2 a4 (upM M 19 r1.toNatClampNeg r59) (fun r67 =>
     R67 r67)
    )))
   ))
  ) → R19 x4) →
  (a2 = (-1) → (
   R19 0
  )) ∧ (¬ a2 = (-1) → (
   R19 1
  )))
set_option maxRecDepth 20000 in
theorem c_X12_layState (l : Launch) (P : jP) (a1 : Int32) (a2 : Int32) (a3 : Int32) (a4 : Int32) (M : jM) (N : jN) (Q : jM → jN → Prop) (h : w_X12_layState P a1 a2 a3 a4 M N Q) : jC l yX12_layState cX12_layState 8 none rm_X12_layState LM [.ref (P.1 1), .int a1, .int a2, .int a3, .int a4] P M N (jqv P (fun M' N' => Q M' N')) := by
  refine jC_of (by decide +kernel) [(0, .ref (P.1 1)), (1, .int a1), (2, .int a2), (3, .int a3), (4, .int a4)] (Nat.le_of_ble_eq_true rfl) rfl (fun X o => ?_)
  obtain ⟨E, hE⟩ : ∃ E, E = jE X rm_X12_layState (jqv P (fun M' N' => Q M' N')) := ⟨_, rfl⟩
  rw [← hE]
  unfold w_X12_layState at h
  refine j_aload_n o dX12_layState_0 rfl ?_
  refine j_iload_n o dX12_layState_1 rfl ?_
  refine j_iload o dX12_layState_2 rfl ?_
  refine j_callVi (g := 1) (ci := 12) o (c_X12_state l P a3 a4 M N _ h) dX12_layState_4 jc_X12_291 jn_X12_state rfl rfl rfl (fun _ => rfl) rfl rfl (fun r1 Mz2 Nz3 h => ?_)
  obtain ⟨rfl, rfl, h⟩ := h
  refine j_istore o [(5, .int r1), (0, .ref (P.1 1)), (1, .int a1), (2, .int a2), (3, .int a3), (4, .int a4)] dX12_layState_7 (by decide) rfl ?_
  refine j_iload_n o dX12_layState_9 rfl ?_
  refine j_iconst o (v := (-1)) dX12_layState_10 rfl ?_
  replace h := h (fun (x4 : Int32) => J X P M N 0 0 E 8 19 [(0, .ref (P.1 1)), (1, .int a1), (2, .int a2), (3, .int a3), (4, .int a4), (5, .int r1)] [.int x4]) (by
    intro x4 h
    refine j_istore o [(6, .int x4), (0, .ref (P.1 1)), (1, .int a1), (2, .int a2), (3, .int a3), (4, .int a4), (5, .int r1)] dX12_layState_19 (by decide) rfl ?_
    refine j_iload_n o dX12_layState_21 rfl ?_
    refine j_aload_n o dX12_layState_22 rfl ?_
    refine j_getf o (g := 1) (slot := 2) (ci := 12) (v := .int (M 1 2)) rfl jin_X12 (by decide) rfl jf_X12_111 (fun _ => rfl) rfl dX12_layState_23 ?_
    refine j_iconst o (v := 1) dX12_layState_26 rfl ?_
    refine j_isub o dX12_layState_27 ?_
    replace h := h (fun (M5 : jM) => J X P M5 N 0 0 E 8 119 [(0, .ref (P.1 1)), (3, .int a3), (4, .int a4), (5, .int r1), (6, .int x4)] []) (by
      intro M5 h
      refine j_aload_n o dX12_layState_119 rfl ?_
      refine j_getf o (g := 1) (slot := 35) (ci := 12) (v := .ref (P.1 22)) rfl jin_X12 (by decide) rfl jf_X12_73 (fun _ => rfl) rfl dX12_layState_120 ?_
      refine j_iload o dX12_layState_123 rfl ?_
      refine j_aload_n o dX12_layState_125 rfl ?_
      refine j_iload o dX12_layState_126 rfl ?_
      refine j_iload o dX12_layState_128 rfl ?_
      refine j_callVi (g := 1) (ci := 12) o (c_X12_isOut l P r1 x4 M5 N _ h) dX12_layState_130 jc_X12_301 jn_X12_isOut rfl rfl rfl (fun _ => rfl) rfl rfl (fun r6 Mz7 Nz8 h => ?_)
      obtain ⟨rfl, rfl, h⟩ := h
      replace h := h (fun (x9 : Int64) => J X P M5 N 0 0 E 8 143 [(0, .ref (P.1 1)), (3, .int a3), (4, .int a4), (5, .int r1), (6, .int x4)] [.long x9, .int r1, .ref (P.1 22)]) (by
        intro x9 h
        obtain ⟨hb10, h⟩ := h
        refine j_last o (g := 22) (fun _ _ _ => rfl) hb10 dX12_layState_143 ?_
        refine j_aload_n o dX12_layState_144 rfl ?_
        refine j_getf o (g := 1) (slot := 34) (ci := 12) (v := .ref (P.1 21)) rfl jin_X12 (by decide) rfl jf_X12_70 (fun _ => rfl) rfl dX12_layState_145 ?_
        refine j_iload o dX12_layState_148 rfl ?_
        refine j_aload_n o dX12_layState_150 rfl ?_
        refine j_iload o dX12_layState_151 rfl ?_
        refine j_iload o dX12_layState_153 rfl ?_
        refine j_callVi (g := 1) (ci := 12) o (c_X12_isOut l P r1 x4 M5 (upN N 22 r1.toNatClampNeg x9) _ h) dX12_layState_155 jc_X12_301 jn_X12_isOut rfl rfl rfl (fun _ => rfl) rfl rfl (fun r11 Mz12 Nz13 h => ?_)
        obtain ⟨rfl, rfl, h⟩ := h
        replace h := h (fun (x14 : Int32) => J X P M5 (upN N 22 r1.toNatClampNeg x9) 0 0 E 8 168 [(0, .ref (P.1 1)), (3, .int a3), (4, .int a4), (5, .int r1), (6, .int x4)] [.int x14, .int r1, .ref (P.1 21)]) (by
          intro x14 h
          obtain ⟨hb15, h⟩ := h
          refine j_iast o (g := 21) (fun _ _ _ => rfl) hb15 dX12_layState_168 ?_
          refine j_iconst o (v := 0) dX12_layState_169 rfl ?_
          refine j_istore o [(7, .int 0), (0, .ref (P.1 1)), (3, .int a3), (4, .int a4), (5, .int r1), (6, .int x4)] dX12_layState_170 (by decide) rfl ?_
          replace h := h (fun (x16 : Int32) (M17 : jM) (N18 : jN) => J X P M17 N18 0 0 E 8 172 [(0, .ref (P.1 1)), (3, .int a3), (4, .int a4), (5, .int r1), (6, .int x4), (7, .int x16)] []) (by
            intro x16 M17 N18 h
            refine j_iload o dX12_layState_172 rfl ?_
            refine j_aload_n o dX12_layState_174 rfl ?_
            refine j_getf o (g := 1) (slot := 1) (ci := 12) (v := .int (M17 1 1)) rfl jin_X12 (by decide) rfl jf_X12_107 (fun _ => rfl) rfl dX12_layState_175 ?_
            refine j_icmp_ge o (tgt := 272) dX12_layState_178 (by decide) (fun c19 => ?_) (fun c19 => ?_)
            · replace h := h.1 c19
              rw [hE]
              exact j_vret o dX12_layState_272 ⟨rfl, rfl, h⟩
            · replace h := h.2 c19
              refine j_aload_n o dX12_layState_181 rfl ?_
              refine j_iload o dX12_layState_182 rfl ?_
              refine j_iload o dX12_layState_184 rfl ?_
              refine j_callVi (g := 1) (ci := 12) o (c_X12_isOut l P r1 x4 M17 N18 _ h) dX12_layState_186 jc_X12_301 jn_X12_isOut rfl rfl rfl (fun _ => rfl) rfl rfl (fun r20 Mz21 Nz22 h => ?_)
              obtain ⟨rfl, rfl, h⟩ := h
              refine j_if_ne o (tgt := 272) dX12_layState_189 (by decide) (fun c23 => ?_) (fun c23 => ?_)
              · replace h := h.1 c23
                rw [hE]
                exact j_vret o dX12_layState_272 ⟨rfl, rfl, h⟩
              · replace h := h.2 c23
                refine j_iload_n o dX12_layState_192 rfl ?_
                refine j_iload o dX12_layState_193 rfl ?_
                refine j_callSi o (c_X12_has l P a3 x16 M17 N18 _ h) dX12_layState_195 jc_X12_157 jn_X12_has rfl rfl rfl rfl (fun r24 Mz25 Nz26 h => ?_)
                obtain ⟨rfl, rfl, h⟩ := h
                replace h := h (fun (M27 : jM) (N28 : jN) => J X P M27 N28 0 0 E 8 266 [(0, .ref (P.1 1)), (3, .int a3), (4, .int a4), (5, .int r1), (6, .int x4), (7, .int x16)] []) (by
                  intro M27 N28 h
                  refine j_iinc o (v := x16 + 1) [(7, .int (x16 + 1)), (0, .ref (P.1 1)), (3, .int a3), (4, .int a4), (5, .int r1), (6, .int x4)] dX12_layState_266 rfl rfl (by decide) rfl ?_
                  refine j_goto o (tgt := 172) dX12_layState_269 (by decide) ?_
                  exact j_pick [1, 2, 3, 4, 5, 0] rfl h)
                refine j_if_ne o (tgt := 266) dX12_layState_198 (by decide) (fun c29 => ?_) (fun c29 => ?_)
                · replace h := h.1 c29
                  exact j_pick [0, 1, 2, 3, 4, 5] rfl h
                · replace h := h.2 c29
                  refine j_aload_n o dX12_layState_201 rfl ?_
                  refine j_getf o (g := 1) (slot := 24) (ci := 12) (v := .ref (P.1 15)) rfl jin_X12 (by decide) rfl jf_X12_51 (fun _ => rfl) rfl dX12_layState_202 ?_
                  refine j_iload o dX12_layState_205 rfl ?_
                  obtain ⟨hb30, h⟩ := h
                  refine j_zald o (g := 15) (fun _ => rfl) hb30 dX12_layState_207 ?_
                  refine j_if_eq o (tgt := 214) dX12_layState_208 (by decide) (fun c31 => ?_) (fun c31 => ?_)
                  · replace h := h.1 c31
                    refine j_aload_n o dX12_layState_214 rfl ?_
                    refine j_getf o (g := 1) (slot := 35) (ci := 12) (v := .ref (P.1 22)) rfl jin_X12 (by decide) rfl jf_X12_73 (fun _ => rfl) rfl dX12_layState_215 ?_
                    refine j_iload o dX12_layState_218 rfl ?_
                    refine j_aload_n o dX12_layState_220 rfl ?_
                    refine j_getf o (g := 1) (slot := 35) (ci := 12) (v := .ref (P.1 22)) rfl jin_X12 (by decide) rfl jf_X12_73 (fun _ => rfl) rfl dX12_layState_221 ?_
                    refine j_iload o dX12_layState_224 rfl ?_
                    obtain ⟨hb32, h⟩ := h
                    refine j_lald o (g := 22) (fun _ => rfl) hb32 dX12_layState_226 ?_
                    refine j_aload_n o dX12_layState_227 rfl ?_
                    refine j_iload_n o dX12_layState_228 rfl ?_
                    refine j_iload o dX12_layState_229 rfl ?_
                    refine j_iload o dX12_layState_231 rfl ?_
                    refine j_callVl (g := 1) (ci := 12) o (c_X12_meanBy l P a3 a4 x16 M17 N18 _ h) dX12_layState_233 jc_X12_305 jn_X12_meanBy rfl rfl rfl (fun _ => rfl) rfl rfl (fun r33 Mz34 Nz35 h => ?_)
                    obtain ⟨rfl, rfl, h⟩ := h
                    refine j_mminL o dX12_layState_236 jc_X12_309 rfl ?_
                    obtain ⟨hb36, h⟩ := h
                    refine j_last o (g := 22) (fun _ _ _ => rfl) hb36 dX12_layState_239 ?_
                    refine j_nameN (fun N37 hN37 => ?_)
                    replace h := h N37 hN37
                    refine j_aload_n o dX12_layState_240 rfl ?_
                    refine j_getf o (g := 1) (slot := 34) (ci := 12) (v := .ref (P.1 21)) rfl jin_X12 (by decide) rfl jf_X12_70 (fun _ => rfl) rfl dX12_layState_241 ?_
                    refine j_iload o dX12_layState_244 rfl ?_
                    refine j_aload_n o dX12_layState_246 rfl ?_
                    refine j_getf o (g := 1) (slot := 34) (ci := 12) (v := .ref (P.1 21)) rfl jin_X12 (by decide) rfl jf_X12_70 (fun _ => rfl) rfl dX12_layState_247 ?_
                    refine j_iload o dX12_layState_250 rfl ?_
                    obtain ⟨hb38, h⟩ := h
                    refine j_iald o (g := 21) (fun _ => rfl) hb38 dX12_layState_252 ?_
                    refine j_aload_n o dX12_layState_253 rfl ?_
                    refine j_iload_n o dX12_layState_254 rfl ?_
                    refine j_iload o dX12_layState_255 rfl ?_
                    refine j_iload o dX12_layState_257 rfl ?_
                    refine j_callVi (g := 1) (ci := 12) o (c_X12_worstBy l P a3 a4 x16 M17 N37 _ h) dX12_layState_259 jc_X12_312 jn_X12_worstBy rfl rfl rfl (fun _ => rfl) rfl rfl (fun r39 Mz40 Nz41 h => ?_)
                    obtain ⟨rfl, rfl, h⟩ := h
                    refine j_mmin o dX12_layState_262 jc_X12_98 rfl ?_
                    obtain ⟨hb42, h⟩ := h
                    refine j_iast o (g := 21) (fun _ _ _ => rfl) hb42 dX12_layState_265 ?_
                    refine j_nameM (fun M43 hM43 => ?_)
                    replace h := h M43 hM43
                    exact j_pick [0, 1, 2, 3, 4, 5] rfl h
                  · replace h := h.2 c31
                    refine j_goto o (tgt := 266) dX12_layState_211 (by decide) ?_
                    exact j_pick [0, 1, 2, 3, 4, 5] rfl h)
          exact j_pick [1, 2, 3, 4, 5, 0] rfl h)
        refine j_if_eq o (tgt := 165) dX12_layState_158 (by decide) (fun c44 => ?_) (fun c44 => ?_)
        · replace h := h.1 c44
          refine j_ldc_w o jk_X12_296 dX12_layState_165 ?_
          exact j_pick [0, 1, 2, 3, 4] rfl h
        · replace h := h.2 c44
          refine j_iconst o (v := 0) dX12_layState_161 rfl ?_
          refine j_goto o (tgt := 168) dX12_layState_162 (by decide) ?_
          exact j_pick [0, 1, 2, 3, 4] rfl h)
      refine j_if_eq o (tgt := 140) dX12_layState_133 (by decide) (fun c45 => ?_) (fun c45 => ?_)
      · replace h := h.1 c45
        refine j_ldc2 o jk_X12_294 dX12_layState_140 ?_
        exact j_pick [0, 1, 2, 3, 4] rfl h
      · replace h := h.2 c45
        refine j_lconst o (v := 0) dX12_layState_136 rfl ?_
        refine j_goto o (tgt := 143) dX12_layState_137 (by decide) ?_
        exact j_pick [0, 1, 2, 3, 4] rfl h)
    refine j_icmp_ne o (tgt := 71) dX12_layState_28 (by decide) (fun c46 => ?_) (fun c46 => ?_)
    · replace h := h.1 c46
      refine j_iload_n o dX12_layState_71 rfl ?_
      refine j_iconst o (v := (-1)) dX12_layState_72 rfl ?_
      refine j_ixor o dX12_layState_73 ?_
      refine j_callSi o (c_J6_numberOfTrailingZeros_0f7a4 l P (a3 ^^^ (-1)) M N _ h) dX12_layState_74 jc_X12_230 jn_J6_numberOfTrailingZeros_0f7a4 rfl rfl rfl rfl (fun r47 Mz48 Nz49 h => ?_)
      obtain ⟨rfl, rfl, h⟩ := h
      refine j_istore o [(7, .int r47), (6, .int x4), (0, .ref (P.1 1)), (1, .int a1), (2, .int a2), (3, .int a3), (4, .int a4), (5, .int r1)] dX12_layState_77 (by decide) rfl ?_
      refine j_aload_n o dX12_layState_79 rfl ?_
      refine j_getf o (g := 1) (slot := 32) (ci := 12) (v := .ref (P.1 19)) rfl jin_X12 (by decide) rfl jf_X12_64 (fun _ => rfl) rfl dX12_layState_80 ?_
      refine j_iload o dX12_layState_83 rfl ?_
      refine j_aload_n o dX12_layState_85 rfl ?_
      refine j_aload_n o dX12_layState_86 rfl ?_
      refine j_getf o (g := 1) (slot := 32) (ci := 12) (v := .ref (P.1 19)) rfl jin_X12 (by decide) rfl jf_X12_64 (fun _ => rfl) rfl dX12_layState_87 ?_
      refine j_iload_n o dX12_layState_90 rfl ?_
      refine j_iload o dX12_layState_91 rfl ?_
      refine j_iload o dX12_layState_93 rfl ?_
      refine j_callVi (g := 1) (ci := 12) o (c_X12_joined l P 19 a3 a4 r47 M N _ h) dX12_layState_95 jc_X12_297 jn_X12_joined rfl rfl rfl (fun _ => rfl) rfl rfl (fun r50 Mz51 Nz52 h => ?_)
      obtain ⟨rfl, rfl, h⟩ := h
      obtain ⟨hb53, h⟩ := h
      refine j_iast o (g := 19) (fun _ _ _ => rfl) hb53 dX12_layState_98 ?_
      refine j_aload_n o dX12_layState_99 rfl ?_
      refine j_getf o (g := 1) (slot := 33) (ci := 12) (v := .ref (P.1 20)) rfl jin_X12 (by decide) rfl jf_X12_67 (fun _ => rfl) rfl dX12_layState_100 ?_
      refine j_iload o dX12_layState_103 rfl ?_
      refine j_aload_n o dX12_layState_105 rfl ?_
      refine j_aload_n o dX12_layState_106 rfl ?_
      refine j_getf o (g := 1) (slot := 33) (ci := 12) (v := .ref (P.1 20)) rfl jin_X12 (by decide) rfl jf_X12_67 (fun _ => rfl) rfl dX12_layState_107 ?_
      refine j_iload_n o dX12_layState_110 rfl ?_
      refine j_iload o dX12_layState_111 rfl ?_
      refine j_iload o dX12_layState_113 rfl ?_
      refine j_callVi (g := 1) (ci := 12) o (c_X12_joined l P 20 a3 a4 r47 (upM M 19 r1.toNatClampNeg r50) N _ h) dX12_layState_115 jc_X12_297 jn_X12_joined rfl rfl rfl (fun _ => rfl) rfl rfl (fun r54 Mz55 Nz56 h => ?_)
      obtain ⟨rfl, rfl, h⟩ := h
      obtain ⟨hb57, h⟩ := h
      refine j_iast o (g := 20) (fun _ _ _ => rfl) hb57 dX12_layState_118 ?_
      refine j_nameM (fun M58 hM58 => ?_)
      replace h := h M58 hM58
      exact j_pick [2, 5, 6, 7, 1] rfl h
    · replace h := h.2 c46
      refine j_aload_n o dX12_layState_31 rfl ?_
      refine j_getf o (g := 1) (slot := 32) (ci := 12) (v := .ref (P.1 19)) rfl jin_X12 (by decide) rfl jf_X12_64 (fun _ => rfl) rfl dX12_layState_32 ?_
      refine j_iload o dX12_layState_35 rfl ?_
      refine j_aload_n o dX12_layState_37 rfl ?_
      refine j_iload_n o dX12_layState_38 rfl ?_
      refine j_iload o dX12_layState_39 rfl ?_
      refine j_callVi (g := 1) (ci := 12) o (c_X12_saidOn l P a1 a4 M N _ h) dX12_layState_41 jc_X12_239 jn_X12_saidOn rfl rfl rfl (fun _ => rfl) rfl rfl (fun r59 Mz60 Nz61 h => ?_)
      obtain ⟨rfl, rfl, h⟩ := h
      obtain ⟨hb62, h⟩ := h
      refine j_iast o (g := 19) (fun _ _ _ => rfl) hb62 dX12_layState_44 ?_
      refine j_aload_n o dX12_layState_45 rfl ?_
      refine j_getf o (g := 1) (slot := 33) (ci := 12) (v := .ref (P.1 20)) rfl jin_X12 (by decide) rfl jf_X12_67 (fun _ => rfl) rfl dX12_layState_46 ?_
      refine j_iload o dX12_layState_49 rfl ?_
      refine j_iload o dX12_layState_51 rfl ?_
      replace h := h (fun (x63 : Int32) => J X P (upM M 19 r1.toNatClampNeg r59) N 0 0 E 8 67 [(0, .ref (P.1 1)), (3, .int a3), (4, .int a4), (5, .int r1), (6, .int x4)] [.int x63, .int r1, .ref (P.1 20)]) (by
        intro x63 h
        obtain ⟨hb64, h⟩ := h
        refine j_iast o (g := 20) (fun _ _ _ => rfl) hb64 dX12_layState_67 ?_
        refine j_nameM (fun M65 hM65 => ?_)
        replace h := h M65 hM65
        refine j_goto o (tgt := 119) dX12_layState_68 (by decide) ?_
        exact j_pick [0, 1, 2, 3, 4] rfl h)
      refine j_if_eq o (tgt := 66) dX12_layState_53 (by decide) (fun c66 => ?_) (fun c66 => ?_)
      · replace h := h.1 c66
        refine j_iconst o (v := 0) dX12_layState_66 rfl ?_
        exact j_pick [1, 4, 5, 6, 0] rfl h
      · replace h := h.2 c66
        refine j_aload_n o dX12_layState_56 rfl ?_
        refine j_iload_n o dX12_layState_57 rfl ?_
        refine j_iload o dX12_layState_58 rfl ?_
        refine j_callVi (g := 1) (ci := 12) o (c_X12_saidOn l P a2 a4 (upM M 19 r1.toNatClampNeg r59) N _ h) dX12_layState_60 jc_X12_239 jn_X12_saidOn rfl rfl rfl (fun _ => rfl) rfl rfl (fun r67 Mz68 Nz69 h => ?_)
        obtain ⟨rfl, rfl, h⟩ := h
        refine j_goto o (tgt := 67) dX12_layState_63 (by decide) ?_
        exact j_pick [1, 4, 5, 6, 0] rfl h)
  refine j_icmp_eq o (tgt := 18) dX12_layState_11 (by decide) (fun c70 => ?_) (fun c70 => ?_)
  · replace h := h.1 c70
    refine j_iconst o (v := 0) dX12_layState_18 rfl ?_
    exact j_pick [1, 2, 3, 4, 5, 0] rfl h
  · replace h := h.2 c70
    refine j_iconst o (v := 1) dX12_layState_14 rfl ?_
    refine j_goto o (tgt := 19) dX12_layState_15 (by decide) ?_
    exact j_pick [1, 2, 3, 4, 5, 0] rfl h

abbrev rm_X12_canAsk : Room := { frames := 4, cells := 0, slots := 0, locals := 103 }
def w_X12_canAsk (P : jP) (a1 : Int32) (a2 : Int32) (a3 : Int32) (a4 : Int32) (M : jM) (N : jN) (Q : Int32 → jM → jN → Prop) : Prop :=
  w_X12_isLaw P a1 M (fun r1 =>
  (r1 = 0 → (
   Q 0 M N
  )) ∧ (¬ r1 = 0 → (
   ∀ R21 : Prop, ((
    w_X12_isKnown P a3 a4 M (fun r5 =>
    (¬ r5 = 0 → (
     ∀ R41 : Int32 → jM → jN → Prop, (∀ (x9 : Int32) (M10 : jM) (N11 : jN), (
      (x9 < 0 → (
       Q 1 M10 N11
      )) ∧ (¬ x9 < 0 → (
       ∀ R49 : Int32 → jM → jN → Prop, (∀ (x13 : Int32) (M14 : jM) (N15 : jN), (
        (x9 < x13 → (
         R41 (x9 + (-1)) M14 N15
        )) ∧ (¬ x9 < x13 → (
         ∀ R76 : jM → jN → Prop, (∀ (M17 : jM) (N18 : jN), (
          R49 (x13 + 1) M17 N18
         ) → R76 M17 N18) →
         (¬ (x13 &&& (x9 ^^^ (-1))) = 0 → (
          R76 M14 N15
         )) ∧ ((x13 &&& (x9 ^^^ (-1))) = 0 → (
          w_X12_layState P a1 a2 x9 x13 M14 N15 (fun M20 N21 =>
          R76 M20 N21)
         ))
        ))
       ) → R49 x13 M14 N15) →
       R49 0 M10 N11
      ))
     ) → R41 x9 M10 N11) →
     R41 ((M 1 2) - 1) M N
    )) ∧ (r5 = 0 → (
     Q 0 M N
    )))
   ) → R21) →
   (a2 = (-1) → (
    R21
   )) ∧ (¬ a2 = (-1) → (
    w_X12_isLaw P a2 M (fun r23 =>
    (r23 = 0 → (
     Q 0 M N
    )) ∧ (¬ r23 = 0 → (
     R21
    )))
   ))
  )))
set_option maxRecDepth 20000 in
theorem c_X12_canAsk (l : Launch) (P : jP) (a1 : Int32) (a2 : Int32) (a3 : Int32) (a4 : Int32) (M : jM) (N : jN) (Q : Int32 → jM → jN → Prop) (h : w_X12_canAsk P a1 a2 a3 a4 M N Q) : jC l yX12_canAsk cX12_canAsk 7 (some .boolean) rm_X12_canAsk LM [.ref (P.1 1), .int a1, .int a2, .int a3, .int a4] P M N (jqi P (fun r M' N' => Q r M' N')) := by
  refine jC_of (by decide +kernel) [(0, .ref (P.1 1)), (1, .int a1), (2, .int a2), (3, .int a3), (4, .int a4)] (Nat.le_of_ble_eq_true rfl) rfl (fun X o => ?_)
  obtain ⟨E, hE⟩ : ∃ E, E = jE X rm_X12_canAsk (jqi P (fun r M' N' => Q r M' N')) := ⟨_, rfl⟩
  rw [← hE]
  unfold w_X12_canAsk at h
  refine j_aload_n o dX12_canAsk_0 rfl ?_
  refine j_iload_n o dX12_canAsk_1 rfl ?_
  refine j_callVi (g := 1) (ci := 12) o (c_X12_isLaw l P a1 M N _ h) dX12_canAsk_2 jc_X12_233 jn_X12_isLaw rfl rfl rfl (fun _ => rfl) rfl rfl (fun r1 Mz2 Nz3 h => ?_)
  obtain ⟨rfl, rfl, h⟩ := h
  refine j_if_eq o (tgt := 31) dX12_canAsk_5 (by decide) (fun c4 => ?_) (fun c4 => ?_)
  · replace h := h.1 c4
    refine j_iconst o (v := 0) dX12_canAsk_31 rfl ?_
    rw [hE]
    exact j_zret o rfl dX12_canAsk_32 ⟨_, rfl, rfl, h⟩
  · replace h := h.2 c4
    refine j_iload_n o dX12_canAsk_8 rfl ?_
    refine j_iconst o (v := (-1)) dX12_canAsk_9 rfl ?_
    replace h := h (J X P M N 0 0 E 7 21 [(0, .ref (P.1 1)), (1, .int a1), (2, .int a2), (3, .int a3), (4, .int a4)] []) (by
      intro h
      refine j_aload_n o dX12_canAsk_21 rfl ?_
      refine j_iload_n o dX12_canAsk_22 rfl ?_
      refine j_iload o dX12_canAsk_23 rfl ?_
      refine j_callVi (g := 1) (ci := 12) o (c_X12_isKnown l P a3 a4 M N _ h) dX12_canAsk_25 jc_X12_245 jn_X12_isKnown rfl rfl rfl (fun _ => rfl) rfl rfl (fun r5 Mz6 Nz7 h => ?_)
      obtain ⟨rfl, rfl, h⟩ := h
      refine j_if_ne o (tgt := 33) dX12_canAsk_28 (by decide) (fun c8 => ?_) (fun c8 => ?_)
      · replace h := h.1 c8
        refine j_aload_n o dX12_canAsk_33 rfl ?_
        refine j_getf o (g := 1) (slot := 2) (ci := 12) (v := .int (M 1 2)) rfl jin_X12 (by decide) rfl jf_X12_111 (fun _ => rfl) rfl dX12_canAsk_34 ?_
        refine j_iconst o (v := 1) dX12_canAsk_37 rfl ?_
        refine j_isub o dX12_canAsk_38 ?_
        refine j_istore o [(5, .int ((M 1 2) - 1)), (0, .ref (P.1 1)), (1, .int a1), (2, .int a2), (3, .int a3), (4, .int a4)] dX12_canAsk_39 (by decide) rfl ?_
        replace h := h (fun (x9 : Int32) (M10 : jM) (N11 : jN) => J X P M10 N11 0 0 E 7 41 [(0, .ref (P.1 1)), (1, .int a1), (2, .int a2), (5, .int x9)] []) (by
          intro x9 M10 N11 h
          refine j_iload o dX12_canAsk_41 rfl ?_
          refine j_if_lt o (tgt := 88) dX12_canAsk_43 (by decide) (fun c12 => ?_) (fun c12 => ?_)
          · replace h := h.1 c12
            refine j_iconst o (v := 1) dX12_canAsk_88 rfl ?_
            rw [hE]
            exact j_zret o rfl dX12_canAsk_89 ⟨_, rfl, rfl, h⟩
          · replace h := h.2 c12
            refine j_iconst o (v := 0) dX12_canAsk_46 rfl ?_
            refine j_istore o [(6, .int 0), (0, .ref (P.1 1)), (1, .int a1), (2, .int a2), (5, .int x9)] dX12_canAsk_47 (by decide) rfl ?_
            replace h := h (fun (x13 : Int32) (M14 : jM) (N15 : jN) => J X P M14 N15 0 0 E 7 49 [(0, .ref (P.1 1)), (1, .int a1), (2, .int a2), (5, .int x9), (6, .int x13)] []) (by
              intro x13 M14 N15 h
              refine j_iload o dX12_canAsk_49 rfl ?_
              refine j_iload o dX12_canAsk_51 rfl ?_
              refine j_icmp_gt o (tgt := 82) dX12_canAsk_53 (by decide) (fun c16 => ?_) (fun c16 => ?_)
              · replace h := h.1 c16
                refine j_iinc o (v := x9 + (-1)) [(5, .int (x9 + (-1))), (0, .ref (P.1 1)), (1, .int a1), (2, .int a2), (6, .int x13)] dX12_canAsk_82 rfl rfl (by decide) rfl ?_
                refine j_goto o (tgt := 41) dX12_canAsk_85 (by decide) ?_
                exact j_pick [1, 2, 3, 0] rfl h
              · replace h := h.2 c16
                refine j_iload o dX12_canAsk_56 rfl ?_
                refine j_iload o dX12_canAsk_58 rfl ?_
                refine j_iconst o (v := (-1)) dX12_canAsk_60 rfl ?_
                refine j_ixor o dX12_canAsk_61 ?_
                refine j_iand o dX12_canAsk_62 ?_
                replace h := h (fun (M17 : jM) (N18 : jN) => J X P M17 N18 0 0 E 7 76 [(0, .ref (P.1 1)), (1, .int a1), (2, .int a2), (5, .int x9), (6, .int x13)] []) (by
                  intro M17 N18 h
                  refine j_iinc o (v := x13 + 1) [(6, .int (x13 + 1)), (0, .ref (P.1 1)), (1, .int a1), (2, .int a2), (5, .int x9)] dX12_canAsk_76 rfl rfl (by decide) rfl ?_
                  refine j_goto o (tgt := 49) dX12_canAsk_79 (by decide) ?_
                  exact j_pick [1, 2, 3, 4, 0] rfl h)
                refine j_if_ne o (tgt := 76) dX12_canAsk_63 (by decide) (fun c19 => ?_) (fun c19 => ?_)
                · replace h := h.1 c19
                  exact j_pick [0, 1, 2, 3, 4] rfl h
                · replace h := h.2 c19
                  refine j_aload_n o dX12_canAsk_66 rfl ?_
                  refine j_iload_n o dX12_canAsk_67 rfl ?_
                  refine j_iload_n o dX12_canAsk_68 rfl ?_
                  refine j_iload o dX12_canAsk_69 rfl ?_
                  refine j_iload o dX12_canAsk_71 rfl ?_
                  refine j_callVv (g := 1) (ci := 12) o (c_X12_layState l P a1 a2 x9 x13 M14 N15 _ h) dX12_canAsk_73 jc_X12_315 jn_X12_layState rfl rfl rfl (fun _ => rfl) rfl rfl (fun M20 N21 h => ?_)
                  exact j_pick [0, 1, 2, 3, 4] rfl h)
            exact j_pick [1, 2, 3, 4, 0] rfl h)
        exact j_pick [1, 2, 3, 0] rfl h
      · replace h := h.2 c8
        refine j_iconst o (v := 0) dX12_canAsk_31 rfl ?_
        rw [hE]
        exact j_zret o rfl dX12_canAsk_32 ⟨_, rfl, rfl, h⟩)
    refine j_icmp_eq o (tgt := 21) dX12_canAsk_10 (by decide) (fun c22 => ?_) (fun c22 => ?_)
    · replace h := h.1 c22
      exact j_pick [0, 1, 2, 3, 4] rfl h
    · replace h := h.2 c22
      refine j_aload_n o dX12_canAsk_13 rfl ?_
      refine j_iload_n o dX12_canAsk_14 rfl ?_
      refine j_callVi (g := 1) (ci := 12) o (c_X12_isLaw l P a2 M N _ h) dX12_canAsk_15 jc_X12_233 jn_X12_isLaw rfl rfl rfl (fun _ => rfl) rfl rfl (fun r23 Mz24 Nz25 h => ?_)
      obtain ⟨rfl, rfl, h⟩ := h
      refine j_if_eq o (tgt := 31) dX12_canAsk_18 (by decide) (fun c26 => ?_) (fun c26 => ?_)
      · replace h := h.1 c26
        refine j_iconst o (v := 0) dX12_canAsk_31 rfl ?_
        rw [hE]
        exact j_zret o rfl dX12_canAsk_32 ⟨_, rfl, rfl, h⟩
      · replace h := h.2 c26
        exact j_pick [0, 1, 2, 3, 4] rfl h

abbrev rm_X12_mean : Room := { frames := 5, cells := 0, slots := 0, locals := 129 }
def w_X12_mean (P : jP) (a1 : Int32) (a2 : Int32) (a3 : Int32) (a4 : Int32) (M : jM) (N : jN) (Q : Int64 → jM → jN → Prop) : Prop :=
  w_X12_canAsk P a1 a2 a3 a4 (upM M 1 0 0) N (fun r1 M2 N3 =>
  (¬ r1 = 0 → (
   w_X12_state P a3 a4 (fun r5 =>
   vp_in r5 (262144) ∧
   ((lg_cmp (N3 22 r5.toNatClampNeg) 1000000000000000) < 0 → (
    Q (N3 22 r5.toNatClampNeg) M2 N3
   )) ∧ (¬ (lg_cmp (N3 22 r5.toNatClampNeg) 1000000000000000) < 0 → (
    Q (-1) M2 N3
   )))
  )) ∧ (r1 = 0 → (
   Q (-1) M2 N3
  )))
set_option maxRecDepth 20000 in
theorem c_X12_mean (l : Launch) (P : jP) (a1 : Int32) (a2 : Int32) (a3 : Int32) (a4 : Int32) (M : jM) (N : jN) (Q : Int64 → jM → jN → Prop) (h : w_X12_mean P a1 a2 a3 a4 M N Q) : jC l yX12_mean cX12_mean 7 (some .long) rm_X12_mean LM [.ref (P.1 1), .int a1, .int a2, .int a3, .int a4] P M N (jql P (fun r M' N' => Q r M' N')) := by
  refine jC_of (by decide +kernel) [(0, .ref (P.1 1)), (1, .int a1), (2, .int a2), (3, .int a3), (4, .int a4)] (Nat.le_of_ble_eq_true rfl) rfl (fun X o => ?_)
  obtain ⟨E, hE⟩ : ∃ E, E = jE X rm_X12_mean (jql P (fun r M' N' => Q r M' N')) := ⟨_, rfl⟩
  rw [← hE]
  unfold w_X12_mean at h
  refine j_aload_n o dX12_mean_0 rfl ?_
  refine j_iconst o (v := 0) dX12_mean_1 rfl ?_
  refine j_putf o (M1 := upM M 1 0 0) (N1 := N) (g := 1) (slot := 0) (ci := 12) (ty := .int) rfl jin_X12 tyX12_ok nmX12 (by decide) rfl rfl jf_X12_114 (by decide +kernel) rfl rfl (Nat.le_of_ble_eq_true rfl) (fun _ => rfl) (fun _ => rfl) (fun _ hj => upM_ne _ _ _ hj) (fun _ _ => rfl) dX12_mean_2 ?_
  refine j_aload_n o dX12_mean_5 rfl ?_
  refine j_iload_n o dX12_mean_6 rfl ?_
  refine j_iload_n o dX12_mean_7 rfl ?_
  refine j_iload_n o dX12_mean_8 rfl ?_
  refine j_iload o dX12_mean_9 rfl ?_
  refine j_callVi (g := 1) (ci := 12) o (c_X12_canAsk l P a1 a2 a3 a4 (upM M 1 0 0) N _ h) dX12_mean_11 jc_X12_319 jn_X12_canAsk rfl rfl rfl (fun _ => rfl) rfl rfl (fun r1 M2 N3 h => ?_)
  refine j_if_ne o (tgt := 21) dX12_mean_14 (by decide) (fun c4 => ?_) (fun c4 => ?_)
  · replace h := h.1 c4
    refine j_aload_n o dX12_mean_21 rfl ?_
    refine j_getf o (g := 1) (slot := 35) (ci := 12) (v := .ref (P.1 22)) rfl jin_X12 (by decide) rfl jf_X12_73 (fun _ => rfl) rfl dX12_mean_22 ?_
    refine j_aload_n o dX12_mean_25 rfl ?_
    refine j_iload_n o dX12_mean_26 rfl ?_
    refine j_iload o dX12_mean_27 rfl ?_
    refine j_callVi (g := 1) (ci := 12) o (c_X12_state l P a3 a4 M2 N3 _ h) dX12_mean_29 jc_X12_291 jn_X12_state rfl rfl rfl (fun _ => rfl) rfl rfl (fun r5 Mz6 Nz7 h => ?_)
    obtain ⟨rfl, rfl, h⟩ := h
    obtain ⟨hb8, h⟩ := h
    refine j_lald o (g := 22) (fun _ => rfl) hb8 dX12_mean_32 ?_
    refine j_lstore o [(5, .long (N3 22 r5.toNatClampNeg)), (0, .ref (P.1 1)), (1, .int a1), (2, .int a2), (3, .int a3), (4, .int a4)] dX12_mean_33 (by decide) rfl ?_
    refine j_lload o dX12_mean_35 rfl ?_
    refine j_ldc2 o jk_X12_294 dX12_mean_37 ?_
    refine j_lcmp o dX12_mean_40 ?_
    refine j_if_lt o (tgt := 50) dX12_mean_41 (by decide) (fun c9 => ?_) (fun c9 => ?_)
    · replace h := h.1 c9
      refine j_lload o dX12_mean_50 rfl ?_
      rw [hE]
      exact j_lret o dX12_mean_52 ⟨_, rfl, rfl, h⟩
    · replace h := h.2 c9
      refine j_ldc2 o jk_X12_289 dX12_mean_44 ?_
      refine j_goto o (tgt := 52) dX12_mean_47 (by decide) ?_
      rw [hE]
      exact j_lret o dX12_mean_52 ⟨_, rfl, rfl, h⟩
  · replace h := h.2 c4
    refine j_ldc2 o jk_X12_289 dX12_mean_17 ?_
    rw [hE]
    exact j_lret o dX12_mean_20 ⟨_, rfl, rfl, h⟩

abbrev rm_X12_worst : Room := { frames := 5, cells := 0, slots := 0, locals := 129 }
def w_X12_worst (P : jP) (a1 : Int32) (a2 : Int32) (a3 : Int32) (a4 : Int32) (M : jM) (N : jN) (Q : Int32 → jM → jN → Prop) : Prop :=
  w_X12_canAsk P a1 a2 a3 a4 (upM M 1 0 0) N (fun r1 M2 N3 =>
  (¬ r1 = 0 → (
   w_X12_state P a3 a4 (fun r5 =>
   vp_in r5 (262144) ∧
   ((M2 21 r5.toNatClampNeg) < 1000000 → (
    Q (M2 21 r5.toNatClampNeg) M2 N3
   )) ∧ (¬ (M2 21 r5.toNatClampNeg) < 1000000 → (
    Q (-1) M2 N3
   )))
  )) ∧ (r1 = 0 → (
   Q (-1) M2 N3
  )))
set_option maxRecDepth 20000 in
theorem c_X12_worst (l : Launch) (P : jP) (a1 : Int32) (a2 : Int32) (a3 : Int32) (a4 : Int32) (M : jM) (N : jN) (Q : Int32 → jM → jN → Prop) (h : w_X12_worst P a1 a2 a3 a4 M N Q) : jC l yX12_worst cX12_worst 6 (some .int) rm_X12_worst LM [.ref (P.1 1), .int a1, .int a2, .int a3, .int a4] P M N (jqi P (fun r M' N' => Q r M' N')) := by
  refine jC_of (by decide +kernel) [(0, .ref (P.1 1)), (1, .int a1), (2, .int a2), (3, .int a3), (4, .int a4)] (Nat.le_of_ble_eq_true rfl) rfl (fun X o => ?_)
  obtain ⟨E, hE⟩ : ∃ E, E = jE X rm_X12_worst (jqi P (fun r M' N' => Q r M' N')) := ⟨_, rfl⟩
  rw [← hE]
  unfold w_X12_worst at h
  refine j_aload_n o dX12_worst_0 rfl ?_
  refine j_iconst o (v := 0) dX12_worst_1 rfl ?_
  refine j_putf o (M1 := upM M 1 0 0) (N1 := N) (g := 1) (slot := 0) (ci := 12) (ty := .int) rfl jin_X12 tyX12_ok nmX12 (by decide) rfl rfl jf_X12_114 (by decide +kernel) rfl rfl (Nat.le_of_ble_eq_true rfl) (fun _ => rfl) (fun _ => rfl) (fun _ hj => upM_ne _ _ _ hj) (fun _ _ => rfl) dX12_worst_2 ?_
  refine j_aload_n o dX12_worst_5 rfl ?_
  refine j_iload_n o dX12_worst_6 rfl ?_
  refine j_iload_n o dX12_worst_7 rfl ?_
  refine j_iload_n o dX12_worst_8 rfl ?_
  refine j_iload o dX12_worst_9 rfl ?_
  refine j_callVi (g := 1) (ci := 12) o (c_X12_canAsk l P a1 a2 a3 a4 (upM M 1 0 0) N _ h) dX12_worst_11 jc_X12_319 jn_X12_canAsk rfl rfl rfl (fun _ => rfl) rfl rfl (fun r1 M2 N3 h => ?_)
  refine j_if_ne o (tgt := 19) dX12_worst_14 (by decide) (fun c4 => ?_) (fun c4 => ?_)
  · replace h := h.1 c4
    refine j_aload_n o dX12_worst_19 rfl ?_
    refine j_getf o (g := 1) (slot := 34) (ci := 12) (v := .ref (P.1 21)) rfl jin_X12 (by decide) rfl jf_X12_70 (fun _ => rfl) rfl dX12_worst_20 ?_
    refine j_aload_n o dX12_worst_23 rfl ?_
    refine j_iload_n o dX12_worst_24 rfl ?_
    refine j_iload o dX12_worst_25 rfl ?_
    refine j_callVi (g := 1) (ci := 12) o (c_X12_state l P a3 a4 M2 N3 _ h) dX12_worst_27 jc_X12_291 jn_X12_state rfl rfl rfl (fun _ => rfl) rfl rfl (fun r5 Mz6 Nz7 h => ?_)
    obtain ⟨rfl, rfl, h⟩ := h
    obtain ⟨hb8, h⟩ := h
    refine j_iald o (g := 21) (fun _ => rfl) hb8 dX12_worst_30 ?_
    refine j_istore o [(5, .int (M2 21 r5.toNatClampNeg)), (0, .ref (P.1 1)), (1, .int a1), (2, .int a2), (3, .int a3), (4, .int a4)] dX12_worst_31 (by decide) rfl ?_
    refine j_iload o dX12_worst_33 rfl ?_
    refine j_ldc_w o jk_X12_296 dX12_worst_35 ?_
    refine j_icmp_lt o (tgt := 45) dX12_worst_38 (by decide) (fun c9 => ?_) (fun c9 => ?_)
    · replace h := h.1 c9
      refine j_iload o dX12_worst_45 rfl ?_
      rw [hE]
      exact j_iret o dX12_worst_47 ⟨_, rfl, rfl, h⟩
    · replace h := h.2 c9
      refine j_iconst o (v := (-1)) dX12_worst_41 rfl ?_
      refine j_goto o (tgt := 47) dX12_worst_42 (by decide) ?_
      rw [hE]
      exact j_iret o dX12_worst_47 ⟨_, rfl, rfl, h⟩
  · replace h := h.2 c4
    refine j_iconst o (v := (-1)) dX12_worst_17 rfl ?_
    rw [hE]
    exact j_iret o dX12_worst_18 ⟨_, rfl, rfl, h⟩

abbrev rm_X12_best : Room := { frames := 5, cells := 0, slots := 0, locals := 129 }
def w_X12_best (P : jP) (a1 : Int32) (a2 : Int32) (a3 : Int32) (a4 : Int32) (a5 : Int32) (M : jM) (N : jN) (Q : Int32 → jM → jN → Prop) : Prop :=
  w_X12_isIn P a5 0 1 (fun r1 =>
  (r1 = 0 → (
   Q (-1) (upM M 1 0 0) N
  )) ∧ (¬ r1 = 0 → (
   w_X12_canAsk P a1 a2 a3 a4 (upM M 1 0 0) N (fun r5 M6 N7 =>
   (¬ r5 = 0 → (
    w_X12_state P a3 a4 (fun r9 =>
    ∀ R51 : Int32 → Prop, (∀ (x12 : Int32), (
     w_X12_isOut P r9 x12 M6 (fun r13 =>
     (¬ r13 = 0 → (
      Q (-1) M6 N7
     )) ∧ (r13 = 0 → (
      vp_in r9 (262144) ∧
      ((lg_cmp (N7 22 r9.toNatClampNeg) 1000000000000000) < 0 → (
       ∀ R76 : Int32 → Prop, (∀ (x19 : Int32), (
        ((M6 1 1) ≤ x19 → (
         Q (-1) M6 N7
        )) ∧ (¬ (M6 1 1) ≤ x19 → (
         w_X12_has P a3 x19 (fun r21 =>
         ∀ R157 : Prop, ((
          R76 (x19 + 1)
         ) → R157) →
         (¬ r21 = 0 → (
          R157
         )) ∧ (r21 = 0 → (
          vp_in x19 (9) ∧
          ((M6 15 x19.toNatClampNeg) = 0 → (
           (¬ a5 = 0 → (
            w_X12_worstBy P a3 a4 x19 M6 (fun r28 =>
            vp_in r9 (262144) ∧
            (¬ r28 = (M6 21 r9.toNatClampNeg) → (
             R157
            )) ∧ (r28 = (M6 21 r9.toNatClampNeg) → (
             Q x19 M6 N7
            )))
           )) ∧ (a5 = 0 → (
            w_X12_meanBy P a3 a4 x19 M6 N7 (fun r33 =>
            vp_in r9 (262144) ∧
            (¬ (lg_cmp r33 (N7 22 r9.toNatClampNeg)) = 0 → (
             R157
            )) ∧ ((lg_cmp r33 (N7 22 r9.toNatClampNeg)) = 0 → (
             Q x19 M6 N7
            )))
           ))
          )) ∧ (¬ (M6 15 x19.toNatClampNeg) = 0 → (
           R157
          ))
         )))
        ))
       ) → R76 x19) →
       R76 0
      )) ∧ (¬ (lg_cmp (N7 22 r9.toNatClampNeg) 1000000000000000) < 0 → (
       Q (-1) M6 N7
      ))
     )))
    ) → R51 x12) →
    (a2 = (-1) → (
     R51 0
    )) ∧ (¬ a2 = (-1) → (
     R51 1
    )))
   )) ∧ (r5 = 0 → (
    Q (-1) M6 N7
   )))
  )))
set_option maxRecDepth 20000 in
theorem c_X12_best (l : Launch) (P : jP) (a1 : Int32) (a2 : Int32) (a3 : Int32) (a4 : Int32) (a5 : Int32) (M : jM) (N : jN) (Q : Int32 → jM → jN → Prop) (h : w_X12_best P a1 a2 a3 a4 a5 M N Q) : jC l yX12_best cX12_best 8 (some .int) rm_X12_best LM [.ref (P.1 1), .int a1, .int a2, .int a3, .int a4, .int a5] P M N (jqi P (fun r M' N' => Q r M' N')) := by
  refine jC_of (by decide +kernel) [(0, .ref (P.1 1)), (1, .int a1), (2, .int a2), (3, .int a3), (4, .int a4), (5, .int a5)] (Nat.le_of_ble_eq_true rfl) rfl (fun X o => ?_)
  obtain ⟨E, hE⟩ : ∃ E, E = jE X rm_X12_best (jqi P (fun r M' N' => Q r M' N')) := ⟨_, rfl⟩
  rw [← hE]
  unfold w_X12_best at h
  refine j_aload_n o dX12_best_0 rfl ?_
  refine j_iconst o (v := 0) dX12_best_1 rfl ?_
  refine j_putf o (M1 := upM M 1 0 0) (N1 := N) (g := 1) (slot := 0) (ci := 12) (ty := .int) rfl jin_X12 tyX12_ok nmX12 (by decide) rfl rfl jf_X12_114 (by decide +kernel) rfl rfl (Nat.le_of_ble_eq_true rfl) (fun _ => rfl) (fun _ => rfl) (fun _ hj => upM_ne _ _ _ hj) (fun _ _ => rfl) dX12_best_2 ?_
  refine j_iload o dX12_best_5 rfl ?_
  refine j_iconst o (v := 0) dX12_best_7 rfl ?_
  refine j_iconst o (v := 1) dX12_best_8 rfl ?_
  refine j_callSi o (c_X12_isIn l P a5 0 1 (upM M 1 0 0) N _ h) dX12_best_9 jc_X12_209 jn_X12_isIn rfl rfl rfl rfl (fun r1 Mz2 Nz3 h => ?_)
  obtain ⟨rfl, rfl, h⟩ := h
  refine j_if_eq o (tgt := 27) dX12_best_12 (by decide) (fun c4 => ?_) (fun c4 => ?_)
  · replace h := h.1 c4
    refine j_iconst o (v := (-1)) dX12_best_27 rfl ?_
    rw [hE]
    exact j_iret o dX12_best_28 ⟨_, rfl, rfl, h⟩
  · replace h := h.2 c4
    refine j_aload_n o dX12_best_15 rfl ?_
    refine j_iload_n o dX12_best_16 rfl ?_
    refine j_iload_n o dX12_best_17 rfl ?_
    refine j_iload_n o dX12_best_18 rfl ?_
    refine j_iload o dX12_best_19 rfl ?_
    refine j_callVi (g := 1) (ci := 12) o (c_X12_canAsk l P a1 a2 a3 a4 (upM M 1 0 0) N _ h) dX12_best_21 jc_X12_319 jn_X12_canAsk rfl rfl rfl (fun _ => rfl) rfl rfl (fun r5 M6 N7 h => ?_)
    refine j_if_ne o (tgt := 29) dX12_best_24 (by decide) (fun c8 => ?_) (fun c8 => ?_)
    · replace h := h.1 c8
      refine j_aload_n o dX12_best_29 rfl ?_
      refine j_iload_n o dX12_best_30 rfl ?_
      refine j_iload o dX12_best_31 rfl ?_
      refine j_callVi (g := 1) (ci := 12) o (c_X12_state l P a3 a4 M6 N7 _ h) dX12_best_33 jc_X12_291 jn_X12_state rfl rfl rfl (fun _ => rfl) rfl rfl (fun r9 Mz10 Nz11 h => ?_)
      obtain ⟨rfl, rfl, h⟩ := h
      refine j_istore o [(6, .int r9), (0, .ref (P.1 1)), (1, .int a1), (2, .int a2), (3, .int a3), (4, .int a4), (5, .int a5)] dX12_best_36 (by decide) rfl ?_
      refine j_aload_n o dX12_best_38 rfl ?_
      refine j_iload o dX12_best_39 rfl ?_
      refine j_iload_n o dX12_best_41 rfl ?_
      refine j_iconst o (v := (-1)) dX12_best_42 rfl ?_
      replace h := h (fun (x12 : Int32) => J X P M6 N7 0 0 E 8 51 [(0, .ref (P.1 1)), (3, .int a3), (4, .int a4), (5, .int a5), (6, .int r9)] [.int x12, .int r9, .ref (P.1 1)]) (by
        intro x12 h
        refine j_callVi (g := 1) (ci := 12) o (c_X12_isOut l P r9 x12 M6 N7 _ h) dX12_best_51 jc_X12_301 jn_X12_isOut rfl rfl rfl (fun _ => rfl) rfl rfl (fun r13 Mz14 Nz15 h => ?_)
        obtain ⟨rfl, rfl, h⟩ := h
        refine j_if_ne o (tgt := 71) dX12_best_54 (by decide) (fun c16 => ?_) (fun c16 => ?_)
        · replace h := h.1 c16
          refine j_iconst o (v := (-1)) dX12_best_71 rfl ?_
          rw [hE]
          exact j_iret o dX12_best_72 ⟨_, rfl, rfl, h⟩
        · replace h := h.2 c16
          refine j_aload_n o dX12_best_57 rfl ?_
          refine j_getf o (g := 1) (slot := 35) (ci := 12) (v := .ref (P.1 22)) rfl jin_X12 (by decide) rfl jf_X12_73 (fun _ => rfl) rfl dX12_best_58 ?_
          refine j_iload o dX12_best_61 rfl ?_
          obtain ⟨hb17, h⟩ := h
          refine j_lald o (g := 22) (fun _ => rfl) hb17 dX12_best_63 ?_
          refine j_ldc2 o jk_X12_294 dX12_best_64 ?_
          refine j_lcmp o dX12_best_67 ?_
          refine j_if_lt o (tgt := 73) dX12_best_68 (by decide) (fun c18 => ?_) (fun c18 => ?_)
          · replace h := h.1 c18
            refine j_iconst o (v := 0) dX12_best_73 rfl ?_
            refine j_istore o [(7, .int 0), (0, .ref (P.1 1)), (3, .int a3), (4, .int a4), (5, .int a5), (6, .int r9)] dX12_best_74 (by decide) rfl ?_
            replace h := h (fun (x19 : Int32) => J X P M6 N7 0 0 E 8 76 [(0, .ref (P.1 1)), (3, .int a3), (4, .int a4), (5, .int a5), (6, .int r9), (7, .int x19)] []) (by
              intro x19 h
              refine j_iload o dX12_best_76 rfl ?_
              refine j_aload_n o dX12_best_78 rfl ?_
              refine j_getf o (g := 1) (slot := 1) (ci := 12) (v := .int (M6 1 1)) rfl jin_X12 (by decide) rfl jf_X12_107 (fun _ => rfl) rfl dX12_best_79 ?_
              refine j_icmp_ge o (tgt := 163) dX12_best_82 (by decide) (fun c20 => ?_) (fun c20 => ?_)
              · replace h := h.1 c20
                refine j_iconst o (v := (-1)) dX12_best_163 rfl ?_
                rw [hE]
                exact j_iret o dX12_best_164 ⟨_, rfl, rfl, h⟩
              · replace h := h.2 c20
                refine j_iload_n o dX12_best_85 rfl ?_
                refine j_iload o dX12_best_86 rfl ?_
                refine j_callSi o (c_X12_has l P a3 x19 M6 N7 _ h) dX12_best_88 jc_X12_157 jn_X12_has rfl rfl rfl rfl (fun r21 Mz22 Nz23 h => ?_)
                obtain ⟨rfl, rfl, h⟩ := h
                replace h := h (J X P M6 N7 0 0 E 8 157 [(0, .ref (P.1 1)), (3, .int a3), (4, .int a4), (5, .int a5), (6, .int r9), (7, .int x19)] []) (by
                  intro h
                  refine j_iinc o (v := x19 + 1) [(7, .int (x19 + 1)), (0, .ref (P.1 1)), (3, .int a3), (4, .int a4), (5, .int a5), (6, .int r9)] dX12_best_157 rfl rfl (by decide) rfl ?_
                  refine j_goto o (tgt := 76) dX12_best_160 (by decide) ?_
                  exact j_pick [1, 2, 3, 4, 5, 0] rfl h)
                refine j_if_ne o (tgt := 157) dX12_best_91 (by decide) (fun c24 => ?_) (fun c24 => ?_)
                · replace h := h.1 c24
                  exact j_pick [0, 1, 2, 3, 4, 5] rfl h
                · replace h := h.2 c24
                  refine j_aload_n o dX12_best_94 rfl ?_
                  refine j_getf o (g := 1) (slot := 24) (ci := 12) (v := .ref (P.1 15)) rfl jin_X12 (by decide) rfl jf_X12_51 (fun _ => rfl) rfl dX12_best_95 ?_
                  refine j_iload o dX12_best_98 rfl ?_
                  obtain ⟨hb25, h⟩ := h
                  refine j_zald o (g := 15) (fun _ => rfl) hb25 dX12_best_100 ?_
                  refine j_if_eq o (tgt := 107) dX12_best_101 (by decide) (fun c26 => ?_) (fun c26 => ?_)
                  · replace h := h.1 c26
                    refine j_iload o dX12_best_107 rfl ?_
                    refine j_if_ne o (tgt := 135) dX12_best_109 (by decide) (fun c27 => ?_) (fun c27 => ?_)
                    · replace h := h.1 c27
                      refine j_aload_n o dX12_best_135 rfl ?_
                      refine j_iload_n o dX12_best_136 rfl ?_
                      refine j_iload o dX12_best_137 rfl ?_
                      refine j_iload o dX12_best_139 rfl ?_
                      refine j_callVi (g := 1) (ci := 12) o (c_X12_worstBy l P a3 a4 x19 M6 N7 _ h) dX12_best_141 jc_X12_312 jn_X12_worstBy rfl rfl rfl (fun _ => rfl) rfl rfl (fun r28 Mz29 Nz30 h => ?_)
                      obtain ⟨rfl, rfl, h⟩ := h
                      refine j_aload_n o dX12_best_144 rfl ?_
                      refine j_getf o (g := 1) (slot := 34) (ci := 12) (v := .ref (P.1 21)) rfl jin_X12 (by decide) rfl jf_X12_70 (fun _ => rfl) rfl dX12_best_145 ?_
                      refine j_iload o dX12_best_148 rfl ?_
                      obtain ⟨hb31, h⟩ := h
                      refine j_iald o (g := 21) (fun _ => rfl) hb31 dX12_best_150 ?_
                      refine j_icmp_ne o (tgt := 157) dX12_best_151 (by decide) (fun c32 => ?_) (fun c32 => ?_)
                      · replace h := h.1 c32
                        exact j_pick [0, 1, 2, 3, 4, 5] rfl h
                      · replace h := h.2 c32
                        refine j_iload o dX12_best_154 rfl ?_
                        rw [hE]
                        exact j_iret o dX12_best_156 ⟨_, rfl, rfl, h⟩
                    · replace h := h.2 c27
                      refine j_aload_n o dX12_best_112 rfl ?_
                      refine j_iload_n o dX12_best_113 rfl ?_
                      refine j_iload o dX12_best_114 rfl ?_
                      refine j_iload o dX12_best_116 rfl ?_
                      refine j_callVl (g := 1) (ci := 12) o (c_X12_meanBy l P a3 a4 x19 M6 N7 _ h) dX12_best_118 jc_X12_305 jn_X12_meanBy rfl rfl rfl (fun _ => rfl) rfl rfl (fun r33 Mz34 Nz35 h => ?_)
                      obtain ⟨rfl, rfl, h⟩ := h
                      refine j_aload_n o dX12_best_121 rfl ?_
                      refine j_getf o (g := 1) (slot := 35) (ci := 12) (v := .ref (P.1 22)) rfl jin_X12 (by decide) rfl jf_X12_73 (fun _ => rfl) rfl dX12_best_122 ?_
                      refine j_iload o dX12_best_125 rfl ?_
                      obtain ⟨hb36, h⟩ := h
                      refine j_lald o (g := 22) (fun _ => rfl) hb36 dX12_best_127 ?_
                      refine j_lcmp o dX12_best_128 ?_
                      refine j_if_ne o (tgt := 157) dX12_best_129 (by decide) (fun c37 => ?_) (fun c37 => ?_)
                      · replace h := h.1 c37
                        exact j_pick [0, 1, 2, 3, 4, 5] rfl h
                      · replace h := h.2 c37
                        refine j_goto o (tgt := 154) dX12_best_132 (by decide) ?_
                        refine j_iload o dX12_best_154 rfl ?_
                        rw [hE]
                        exact j_iret o dX12_best_156 ⟨_, rfl, rfl, h⟩
                  · replace h := h.2 c26
                    refine j_goto o (tgt := 157) dX12_best_104 (by decide) ?_
                    exact j_pick [0, 1, 2, 3, 4, 5] rfl h)
            exact j_pick [1, 2, 3, 4, 5, 0] rfl h
          · replace h := h.2 c18
            refine j_iconst o (v := (-1)) dX12_best_71 rfl ?_
            rw [hE]
            exact j_iret o dX12_best_72 ⟨_, rfl, rfl, h⟩)
      refine j_icmp_eq o (tgt := 50) dX12_best_43 (by decide) (fun c38 => ?_) (fun c38 => ?_)
      · replace h := h.1 c38
        refine j_iconst o (v := 0) dX12_best_50 rfl ?_
        exact j_pick [1, 4, 5, 6, 0] rfl h
      · replace h := h.2 c38
        refine j_iconst o (v := 1) dX12_best_46 rfl ?_
        refine j_goto o (tgt := 51) dX12_best_47 (by decide) ?_
        exact j_pick [1, 4, 5, 6, 0] rfl h
    · replace h := h.2 c8
      refine j_iconst o (v := (-1)) dX12_best_27 rfl ?_
      rw [hE]
      exact j_iret o dX12_best_28 ⟨_, rfl, rfl, h⟩

abbrev rr_X12_costFrom (d : Nat) : Room := { frames := 2 + d, cells := 0, slots := 0, locals := 49 + d * 27 }
def wb_X12_costFrom (r : (jP → Int32 → Int32 → Int32 → Int32 → jM → (Int64 → Prop) → Prop)) (P : jP) (a1 : Int32) (a2 : Int32) (a3 : Int32) (a4 : Int32) (M : jM) (Q : Int64 → Prop) : Prop :=
  (a2 < 12 → (
   w_X12_factOf P a1 a2 M (fun r2 =>
   w_X12_shareOf P a3 a4 M (fun r5 =>
   vp_in r2 (9) ∧
   w_X12_has P a3 r2 (fun r9 =>
   (r9 = 0 → (
    w_X12_nextOf P a1 a2 1 M (fun r13 =>
    r P a1 r13 (a3 ||| ((1 : Int32) <<< (r2 &&& 31))) (a4 ||| ((1 : Int32) <<< (r2 &&& 31))) M (fun r16 =>
    w_X12_nextOf P a1 a2 0 M (fun r19 =>
    r P a1 r19 (a3 ||| ((1 : Int32) <<< (r2 &&& 31))) a4 M (fun r22 =>
    Q (((r5 * ((M 12 r2.toNatClampNeg).toInt64)) + r16) + r22)))))
   )) ∧ (¬ r9 = 0 → (
    w_X12_has P a4 r2 (fun r25 =>
    w_X12_nextOf P a1 a2 r25 M (fun r28 =>
    r P a1 r28 a3 a4 M (fun r31 =>
    Q ((r5 * ((M 12 r2.toNatClampNeg).toInt64)) + r31))))
   )))))
  )) ∧ (¬ a2 < 12 → (
   Q 0
  ))
def wr_X12_costFrom : Nat → (jP → Int32 → Int32 → Int32 → Int32 → jM → (Int64 → Prop) → Prop)
  | 0 => fun _ _ _ _ _ _ _ => False
  | d + 1 => wb_X12_costFrom (wr_X12_costFrom d)
abbrev ih_X12_costFrom (l : Launch) (d : Nat) : Prop := (∀ (P : jP) (a1 : Int32) (a2 : Int32) (a3 : Int32) (a4 : Int32) (M : jM) (N : jN) (Q : Int64 → Prop), (wr_X12_costFrom d) P a1 a2 a3 a4 M Q → jC l yX12_costFrom cX12_costFrom 8 (some .long) (rr_X12_costFrom d) LM [.ref (P.1 1), .int a1, .int a2, .int a3, .int a4] P M N (jql P (fun r M' N' => M = M' ∧ N = N' ∧ Q r )))
set_option maxRecDepth 20000 in
theorem cr_X12_costFrom (l : Launch) (d : Nat) (ih : ih_X12_costFrom l d) : ∀ (P : jP) (a1 : Int32) (a2 : Int32) (a3 : Int32) (a4 : Int32) (M : jM) (N : jN) (Q : Int64 → Prop), (wr_X12_costFrom (d + 1)) P a1 a2 a3 a4 M Q → jC l yX12_costFrom cX12_costFrom 8 (some .long) (rr_X12_costFrom (d + 1)) LM [.ref (P.1 1), .int a1, .int a2, .int a3, .int a4] P M N (jql P (fun r M' N' => M = M' ∧ N = N' ∧ Q r )) := by
  intro P a1 a2 a3 a4 M N Q h
  have h : wb_X12_costFrom (wr_X12_costFrom d) P a1 a2 a3 a4 M Q := h
  refine jC_of (by decide +kernel) [(0, .ref (P.1 1)), (1, .int a1), (2, .int a2), (3, .int a3), (4, .int a4)] (Nat.le_of_ble_eq_true rfl) rfl (fun X o => ?_)
  obtain ⟨E, hE⟩ : ∃ E, E = jE X (rr_X12_costFrom (d + 1)) (jql P (fun r M' N' => M = M' ∧ N = N' ∧ Q r )) := ⟨_, rfl⟩
  rw [← hE]
  unfold wb_X12_costFrom at h
  refine j_iload_n o dX12_costFrom_0 rfl ?_
  refine j_bipush o (v := 12) dX12_costFrom_1 rfl ?_
  refine j_icmp_lt o (tgt := 8) dX12_costFrom_3 (by decide) (fun c1 => ?_) (fun c1 => ?_)
  · replace h := h.1 c1
    refine j_aload_n o dX12_costFrom_8 rfl ?_
    refine j_iload_n o dX12_costFrom_9 rfl ?_
    refine j_iload_n o dX12_costFrom_10 rfl ?_
    refine j_callVi (g := 1) (ci := 12) o (c_X12_factOf l P a1 a2 M N _ h) dX12_costFrom_11 jc_X12_255 jn_X12_factOf rfl (jRmb_mk rfl rfl (by dsimp only [rr_X12_costFrom, rm_X12_factOf]; omega) (by dsimp only [rr_X12_costFrom, rm_X12_factOf]; omega)) rfl (fun _ => rfl) rfl rfl (fun r2 Mz3 Nz4 h => ?_)
    obtain ⟨rfl, rfl, h⟩ := h
    refine j_istore o [(5, .int r2), (0, .ref (P.1 1)), (1, .int a1), (2, .int a2), (3, .int a3), (4, .int a4)] dX12_costFrom_14 (by decide) rfl ?_
    refine j_aload_n o dX12_costFrom_16 rfl ?_
    refine j_iload_n o dX12_costFrom_17 rfl ?_
    refine j_iload o dX12_costFrom_18 rfl ?_
    refine j_callVl (g := 1) (ci := 12) o (c_X12_shareOf l P a3 a4 M N _ h) dX12_costFrom_20 jc_X12_285 jn_X12_shareOf rfl (jRmb_mk rfl rfl (by dsimp only [rr_X12_costFrom, rm_X12_shareOf]; omega) (by dsimp only [rr_X12_costFrom, rm_X12_shareOf]; omega)) rfl (fun _ => rfl) rfl rfl (fun r5 Mz6 Nz7 h => ?_)
    obtain ⟨rfl, rfl, h⟩ := h
    refine j_aload_n o dX12_costFrom_23 rfl ?_
    refine j_getf o (g := 1) (slot := 21) (ci := 12) (v := .ref (P.1 12)) rfl jin_X12 (by decide) rfl jf_X12_41 (fun _ => rfl) rfl dX12_costFrom_24 ?_
    refine j_iload o dX12_costFrom_27 rfl ?_
    obtain ⟨hb8, h⟩ := h
    refine j_iald o (g := 12) (fun _ => rfl) hb8 dX12_costFrom_29 ?_
    refine j_i2l o dX12_costFrom_30 ?_
    refine j_lmul o dX12_costFrom_31 ?_
    refine j_lstore o [(6, .long (r5 * ((M 12 r2.toNatClampNeg).toInt64))), (5, .int r2), (0, .ref (P.1 1)), (1, .int a1), (2, .int a2), (3, .int a3), (4, .int a4)] dX12_costFrom_32 (by decide) rfl ?_
    refine j_iload_n o dX12_costFrom_34 rfl ?_
    refine j_iload o dX12_costFrom_35 rfl ?_
    refine j_callSi o (c_X12_has l P a3 r2 M N _ h) dX12_costFrom_37 jc_X12_157 jn_X12_has rfl (jRmb_mk rfl rfl (by dsimp only [rr_X12_costFrom, rm_X12_has]; omega) (by dsimp only [rr_X12_costFrom, rm_X12_has]; omega)) rfl rfl (fun r9 Mz10 Nz11 h => ?_)
    obtain ⟨rfl, rfl, h⟩ := h
    refine j_if_eq o (tgt := 68) dX12_costFrom_40 (by decide) (fun c12 => ?_) (fun c12 => ?_)
    · replace h := h.1 c12
      refine j_lload o dX12_costFrom_68 rfl ?_
      refine j_aload_n o dX12_costFrom_70 rfl ?_
      refine j_iload_n o dX12_costFrom_71 rfl ?_
      refine j_aload_n o dX12_costFrom_72 rfl ?_
      refine j_iload_n o dX12_costFrom_73 rfl ?_
      refine j_iload_n o dX12_costFrom_74 rfl ?_
      refine j_iconst o (v := 1) dX12_costFrom_75 rfl ?_
      refine j_callVi (g := 1) (ci := 12) o (c_X12_nextOf l P a1 a2 1 M N _ h) dX12_costFrom_76 jc_X12_258 jn_X12_nextOf rfl (jRmb_mk rfl rfl (by dsimp only [rr_X12_costFrom, rm_X12_nextOf]; omega) (by dsimp only [rr_X12_costFrom, rm_X12_nextOf]; omega)) rfl (fun _ => rfl) rfl rfl (fun r13 Mz14 Nz15 h => ?_)
      obtain ⟨rfl, rfl, h⟩ := h
      refine j_iload_n o dX12_costFrom_79 rfl ?_
      refine j_iconst o (v := 1) dX12_costFrom_80 rfl ?_
      refine j_iload o dX12_costFrom_81 rfl ?_
      refine j_ishl o dX12_costFrom_83 ?_
      refine j_ior o dX12_costFrom_84 ?_
      refine j_iload o dX12_costFrom_85 rfl ?_
      refine j_iconst o (v := 1) dX12_costFrom_87 rfl ?_
      refine j_iload o dX12_costFrom_88 rfl ?_
      refine j_ishl o dX12_costFrom_90 ?_
      refine j_ior o dX12_costFrom_91 ?_
      refine j_callVl (g := 1) (ci := 12) o (ih P a1 r13 (a3 ||| ((1 : Int32) <<< (r2 &&& 31))) (a4 ||| ((1 : Int32) <<< (r2 &&& 31))) M N _ h) dX12_costFrom_92 jc_X12_323 jn_X12_costFrom rfl (jRmb_mk rfl rfl (by dsimp only [rr_X12_costFrom, rr_X12_costFrom]; omega) (by dsimp only [rr_X12_costFrom, rr_X12_costFrom]; omega)) rfl (fun _ => rfl) rfl rfl (fun r16 Mz17 Nz18 h => ?_)
      obtain ⟨rfl, rfl, h⟩ := h
      refine j_ladd o dX12_costFrom_95 ?_
      refine j_aload_n o dX12_costFrom_96 rfl ?_
      refine j_iload_n o dX12_costFrom_97 rfl ?_
      refine j_aload_n o dX12_costFrom_98 rfl ?_
      refine j_iload_n o dX12_costFrom_99 rfl ?_
      refine j_iload_n o dX12_costFrom_100 rfl ?_
      refine j_iconst o (v := 0) dX12_costFrom_101 rfl ?_
      refine j_callVi (g := 1) (ci := 12) o (c_X12_nextOf l P a1 a2 0 M N _ h) dX12_costFrom_102 jc_X12_258 jn_X12_nextOf rfl (jRmb_mk rfl rfl (by dsimp only [rr_X12_costFrom, rm_X12_nextOf]; omega) (by dsimp only [rr_X12_costFrom, rm_X12_nextOf]; omega)) rfl (fun _ => rfl) rfl rfl (fun r19 Mz20 Nz21 h => ?_)
      obtain ⟨rfl, rfl, h⟩ := h
      refine j_iload_n o dX12_costFrom_105 rfl ?_
      refine j_iconst o (v := 1) dX12_costFrom_106 rfl ?_
      refine j_iload o dX12_costFrom_107 rfl ?_
      refine j_ishl o dX12_costFrom_109 ?_
      refine j_ior o dX12_costFrom_110 ?_
      refine j_iload o dX12_costFrom_111 rfl ?_
      refine j_callVl (g := 1) (ci := 12) o (ih P a1 r19 (a3 ||| ((1 : Int32) <<< (r2 &&& 31))) a4 M N _ h) dX12_costFrom_113 jc_X12_323 jn_X12_costFrom rfl (jRmb_mk rfl rfl (by dsimp only [rr_X12_costFrom, rr_X12_costFrom]; omega) (by dsimp only [rr_X12_costFrom, rr_X12_costFrom]; omega)) rfl (fun _ => rfl) rfl rfl (fun r22 Mz23 Nz24 h => ?_)
      obtain ⟨rfl, rfl, h⟩ := h
      refine j_ladd o dX12_costFrom_116 ?_
      rw [hE]
      exact j_lret o dX12_costFrom_117 ⟨_, rfl, rfl, rfl, rfl, h⟩
    · replace h := h.2 c12
      refine j_lload o dX12_costFrom_43 rfl ?_
      refine j_aload_n o dX12_costFrom_45 rfl ?_
      refine j_iload_n o dX12_costFrom_46 rfl ?_
      refine j_aload_n o dX12_costFrom_47 rfl ?_
      refine j_iload_n o dX12_costFrom_48 rfl ?_
      refine j_iload_n o dX12_costFrom_49 rfl ?_
      refine j_iload o dX12_costFrom_50 rfl ?_
      refine j_iload o dX12_costFrom_52 rfl ?_
      refine j_callSi o (c_X12_has l P a4 r2 M N _ h) dX12_costFrom_54 jc_X12_157 jn_X12_has rfl (jRmb_mk rfl rfl (by dsimp only [rr_X12_costFrom, rm_X12_has]; omega) (by dsimp only [rr_X12_costFrom, rm_X12_has]; omega)) rfl rfl (fun r25 Mz26 Nz27 h => ?_)
      obtain ⟨rfl, rfl, h⟩ := h
      refine j_callVi (g := 1) (ci := 12) o (c_X12_nextOf l P a1 a2 r25 M N _ h) dX12_costFrom_57 jc_X12_258 jn_X12_nextOf rfl (jRmb_mk rfl rfl (by dsimp only [rr_X12_costFrom, rm_X12_nextOf]; omega) (by dsimp only [rr_X12_costFrom, rm_X12_nextOf]; omega)) rfl (fun _ => rfl) rfl rfl (fun r28 Mz29 Nz30 h => ?_)
      obtain ⟨rfl, rfl, h⟩ := h
      refine j_iload_n o dX12_costFrom_60 rfl ?_
      refine j_iload o dX12_costFrom_61 rfl ?_
      refine j_callVl (g := 1) (ci := 12) o (ih P a1 r28 a3 a4 M N _ h) dX12_costFrom_63 jc_X12_323 jn_X12_costFrom rfl (jRmb_mk rfl rfl (by dsimp only [rr_X12_costFrom, rr_X12_costFrom]; omega) (by dsimp only [rr_X12_costFrom, rr_X12_costFrom]; omega)) rfl (fun _ => rfl) rfl rfl (fun r31 Mz32 Nz33 h => ?_)
      obtain ⟨rfl, rfl, h⟩ := h
      refine j_ladd o dX12_costFrom_66 ?_
      rw [hE]
      exact j_lret o dX12_costFrom_67 ⟨_, rfl, rfl, rfl, rfl, h⟩
  · replace h := h.2 c1
    refine j_lconst o (v := 0) dX12_costFrom_6 rfl ?_
    rw [hE]
    exact j_lret o dX12_costFrom_7 ⟨_, rfl, rfl, rfl, rfl, h⟩
theorem cr_X12_costFrom_all (l : Launch) : ∀ d, ih_X12_costFrom l d
  | 0 => fun _ _ _ _ _ _ _ _ h => h.elim
  | d + 1 => cr_X12_costFrom l d (cr_X12_costFrom_all l d)
abbrev rm_X12_costFrom : Room := rr_X12_costFrom 20
def w_X12_costFrom (P : jP) (a1 : Int32) (a2 : Int32) (a3 : Int32) (a4 : Int32) (M : jM) (Q : Int64 → Prop) : Prop := (wr_X12_costFrom 20) P a1 a2 a3 a4 M Q
theorem c_X12_costFrom (l : Launch) (P : jP) (a1 : Int32) (a2 : Int32) (a3 : Int32) (a4 : Int32) (M : jM) (N : jN) (Q : Int64 → Prop) (h : w_X12_costFrom P a1 a2 a3 a4 M Q) : jC l yX12_costFrom cX12_costFrom 8 (some .long) rm_X12_costFrom LM [.ref (P.1 1), .int a1, .int a2, .int a3, .int a4] P M N (jql P (fun r M' N' => M = M' ∧ N = N' ∧ Q r )) := (cr_X12_costFrom_all l 20) P a1 a2 a3 a4 M N Q h

abbrev rm_X12_cost : Room := { frames := 23, cells := 0, slots := 0, locals := 616 }
def w_X12_cost (P : jP) (a1 : Int32) (M : jM) (Q : Int64 → jM → Prop) : Prop :=
  w_X12_isForm P a1 (upM M 1 0 0) (fun r1 =>
  (r1 = 0 → (
   Q (-1) (upM M 1 0 0)
  )) ∧ (¬ r1 = 0 → (
   w_X12_costFrom P a1 0 0 0 (upM M 1 0 0) (fun r5 =>
   Q r5 (upM M 1 0 0))
  )))
set_option maxRecDepth 20000 in
theorem c_X12_cost (l : Launch) (P : jP) (a1 : Int32) (M : jM) (N : jN) (Q : Int64 → jM → Prop) (h : w_X12_cost P a1 M Q) : jC l yX12_cost cX12_cost 2 (some .long) rm_X12_cost LM [.ref (P.1 1), .int a1] P M N (jql P (fun r M' N' => N = N' ∧ Q r M' )) := by
  refine jC_of (by decide +kernel) [(0, .ref (P.1 1)), (1, .int a1)] (Nat.le_of_ble_eq_true rfl) rfl (fun X o => ?_)
  obtain ⟨E, hE⟩ : ∃ E, E = jE X rm_X12_cost (jql P (fun r M' N' => N = N' ∧ Q r M' )) := ⟨_, rfl⟩
  rw [← hE]
  unfold w_X12_cost at h
  refine j_aload_n o dX12_cost_0 rfl ?_
  refine j_iconst o (v := 0) dX12_cost_1 rfl ?_
  refine j_putf o (M1 := upM M 1 0 0) (N1 := N) (g := 1) (slot := 0) (ci := 12) (ty := .int) rfl jin_X12 tyX12_ok nmX12 (by decide) rfl rfl jf_X12_114 (by decide +kernel) rfl rfl (Nat.le_of_ble_eq_true rfl) (fun _ => rfl) (fun _ => rfl) (fun _ hj => upM_ne _ _ _ hj) (fun _ _ => rfl) dX12_cost_2 ?_
  refine j_aload_n o dX12_cost_5 rfl ?_
  refine j_iload_n o dX12_cost_6 rfl ?_
  refine j_callVi (g := 1) (ci := 12) o (c_X12_isForm l P a1 (upM M 1 0 0) N _ h) dX12_cost_7 jc_X12_262 jn_X12_isForm rfl rfl rfl (fun _ => rfl) rfl rfl (fun r1 Mz2 Nz3 h => ?_)
  obtain ⟨rfl, rfl, h⟩ := h
  refine j_if_eq o (tgt := 24) dX12_cost_10 (by decide) (fun c4 => ?_) (fun c4 => ?_)
  · replace h := h.1 c4
    refine j_ldc2 o jk_X12_289 dX12_cost_24 ?_
    rw [hE]
    exact j_lret o dX12_cost_27 ⟨_, rfl, rfl, rfl, h⟩
  · replace h := h.2 c4
    refine j_aload_n o dX12_cost_13 rfl ?_
    refine j_iload_n o dX12_cost_14 rfl ?_
    refine j_iconst o (v := 0) dX12_cost_15 rfl ?_
    refine j_iconst o (v := 0) dX12_cost_16 rfl ?_
    refine j_iconst o (v := 0) dX12_cost_17 rfl ?_
    refine j_callVl (g := 1) (ci := 12) o (c_X12_costFrom l P a1 0 0 0 (upM M 1 0 0) N _ h) dX12_cost_18 jc_X12_323 jn_X12_costFrom rfl rfl rfl (fun _ => rfl) rfl rfl (fun r5 Mz6 Nz7 h => ?_)
    obtain ⟨rfl, rfl, h⟩ := h
    refine j_goto o (tgt := 27) dX12_cost_21 (by decide) ?_
    rw [hE]
    exact j_lret o dX12_cost_27 ⟨_, rfl, rfl, rfl, h⟩

abbrev rm_X12_longest : Room := { frames := 1, cells := 0, slots := 0, locals := 23 }
def w_X12_longest (P : jP) (a1 : Int32) (M : jM) (Q : Int32 → jM → Prop) : Prop :=
  w_X12_isForm P a1 (upM M 1 0 0) (fun r1 =>
  (¬ r1 = 0 → (
   ∀ R19 : Int32 → Int32 → Prop, (∀ (x5 : Int32) (x6 : Int32), (
    (((upM M 1 0 0) 1 2) ≤ x6 → (
     Q x5 (upM M 1 0 0)
    )) ∧ (¬ ((upM M 1 0 0) 1 2) ≤ x6 → (
     ∀ R33 : Int32 → Int32 → Prop, (∀ (x8 : Int32) (x9 : Int32), (
      (12 ≤ x9 → (
       R19 (if x5 < x8 then x8 else x5) (x6 + 1)
      )) ∧ (¬ 12 ≤ x9 → (
       w_X12_factOf P a1 x9 (upM M 1 0 0) (fun r11 =>
       vp_in r11 (9) ∧
       w_X12_factOf P a1 x9 (upM M 1 0 0) (fun r15 =>
       w_X12_has P x6 r15 (fun r18 =>
       w_X12_nextOf P a1 x9 r18 (upM M 1 0 0) (fun r21 =>
       R33 (x8 + ((upM M 1 0 0) 12 r11.toNatClampNeg)) r21))))
      ))
     ) → R33 x8 x9) →
     R33 0 0
    ))
   ) → R19 x5 x6) →
   R19 0 0
  )) ∧ (r1 = 0 → (
   Q (-1) (upM M 1 0 0)
  )))
set_option maxRecDepth 20000 in
theorem c_X12_longest (l : Launch) (P : jP) (a1 : Int32) (M : jM) (N : jN) (Q : Int32 → jM → Prop) (h : w_X12_longest P a1 M Q) : jC l yX12_longest cX12_longest 6 (some .int) rm_X12_longest LM [.ref (P.1 1), .int a1] P M N (jqi P (fun r M' N' => N = N' ∧ Q r M' )) := by
  refine jC_of (by decide +kernel) [(0, .ref (P.1 1)), (1, .int a1)] (Nat.le_of_ble_eq_true rfl) rfl (fun X o => ?_)
  obtain ⟨E, hE⟩ : ∃ E, E = jE X rm_X12_longest (jqi P (fun r M' N' => N = N' ∧ Q r M' )) := ⟨_, rfl⟩
  rw [← hE]
  unfold w_X12_longest at h
  refine j_aload_n o dX12_longest_0 rfl ?_
  refine j_iconst o (v := 0) dX12_longest_1 rfl ?_
  refine j_putf o (M1 := upM M 1 0 0) (N1 := N) (g := 1) (slot := 0) (ci := 12) (ty := .int) rfl jin_X12 tyX12_ok nmX12 (by decide) rfl rfl jf_X12_114 (by decide +kernel) rfl rfl (Nat.le_of_ble_eq_true rfl) (fun _ => rfl) (fun _ => rfl) (fun _ hj => upM_ne _ _ _ hj) (fun _ _ => rfl) dX12_longest_2 ?_
  refine j_aload_n o dX12_longest_5 rfl ?_
  refine j_iload_n o dX12_longest_6 rfl ?_
  refine j_callVi (g := 1) (ci := 12) o (c_X12_isForm l P a1 (upM M 1 0 0) N _ h) dX12_longest_7 jc_X12_262 jn_X12_isForm rfl rfl rfl (fun _ => rfl) rfl rfl (fun r1 Mz2 Nz3 h => ?_)
  obtain ⟨rfl, rfl, h⟩ := h
  refine j_if_ne o (tgt := 15) dX12_longest_10 (by decide) (fun c4 => ?_) (fun c4 => ?_)
  · replace h := h.1 c4
    refine j_iconst o (v := 0) dX12_longest_15 rfl ?_
    refine j_istore_n o [(2, .int 0), (0, .ref (P.1 1)), (1, .int a1)] dX12_longest_16 (by decide) rfl ?_
    refine j_iconst o (v := 0) dX12_longest_17 rfl ?_
    refine j_istore_n o [(3, .int 0), (2, .int 0), (0, .ref (P.1 1)), (1, .int a1)] dX12_longest_18 (by decide) rfl ?_
    replace h := h (fun (x5 : Int32) (x6 : Int32) => J X P (upM M 1 0 0) N 0 0 E 6 19 [(0, .ref (P.1 1)), (1, .int a1), (2, .int x5), (3, .int x6)] []) (by
      intro x5 x6 h
      refine j_iload_n o dX12_longest_19 rfl ?_
      refine j_aload_n o dX12_longest_20 rfl ?_
      refine j_getf o (g := 1) (slot := 2) (ci := 12) (v := .int ((upM M 1 0 0) 1 2)) rfl jin_X12 (by decide) rfl jf_X12_111 (fun _ => rfl) rfl dX12_longest_21 ?_
      refine j_icmp_ge o (tgt := 93) dX12_longest_24 (by decide) (fun c7 => ?_) (fun c7 => ?_)
      · replace h := h.1 c7
        refine j_iload_n o dX12_longest_93 rfl ?_
        rw [hE]
        exact j_iret o dX12_longest_94 ⟨_, rfl, rfl, rfl, h⟩
      · replace h := h.2 c7
        refine j_iconst o (v := 0) dX12_longest_27 rfl ?_
        refine j_istore o [(4, .int 0), (0, .ref (P.1 1)), (1, .int a1), (2, .int x5), (3, .int x6)] dX12_longest_28 (by decide) rfl ?_
        refine j_iconst o (v := 0) dX12_longest_30 rfl ?_
        refine j_istore o [(5, .int 0), (4, .int 0), (0, .ref (P.1 1)), (1, .int a1), (2, .int x5), (3, .int x6)] dX12_longest_31 (by decide) rfl ?_
        replace h := h (fun (x8 : Int32) (x9 : Int32) => J X P (upM M 1 0 0) N 0 0 E 6 33 [(0, .ref (P.1 1)), (1, .int a1), (2, .int x5), (3, .int x6), (4, .int x8), (5, .int x9)] []) (by
          intro x8 x9 h
          refine j_iload o dX12_longest_33 rfl ?_
          refine j_bipush o (v := 12) dX12_longest_35 rfl ?_
          refine j_icmp_ge o (tgt := 80) dX12_longest_37 (by decide) (fun c10 => ?_) (fun c10 => ?_)
          · replace h := h.1 c10
            refine j_iload_n o dX12_longest_80 rfl ?_
            refine j_iload o dX12_longest_81 rfl ?_
            refine j_mmax o dX12_longest_83 jc_X12_104 rfl ?_
            refine j_istore_n o [(2, .int (if x5 < x8 then x8 else x5)), (0, .ref (P.1 1)), (1, .int a1), (3, .int x6), (4, .int x8), (5, .int x9)] dX12_longest_86 (by decide) rfl ?_
            refine j_iinc o (v := x6 + 1) [(3, .int (x6 + 1)), (2, .int (if x5 < x8 then x8 else x5)), (0, .ref (P.1 1)), (1, .int a1), (4, .int x8), (5, .int x9)] dX12_longest_87 rfl rfl (by decide) rfl ?_
            refine j_goto o (tgt := 19) dX12_longest_90 (by decide) ?_
            exact j_pick [2, 3, 1, 0] rfl h
          · replace h := h.2 c10
            refine j_iload o dX12_longest_40 rfl ?_
            refine j_aload_n o dX12_longest_42 rfl ?_
            refine j_getf o (g := 1) (slot := 21) (ci := 12) (v := .ref (P.1 12)) rfl jin_X12 (by decide) rfl jf_X12_41 (fun _ => rfl) rfl dX12_longest_43 ?_
            refine j_aload_n o dX12_longest_46 rfl ?_
            refine j_iload_n o dX12_longest_47 rfl ?_
            refine j_iload o dX12_longest_48 rfl ?_
            refine j_callVi (g := 1) (ci := 12) o (c_X12_factOf l P a1 x9 (upM M 1 0 0) N _ h) dX12_longest_50 jc_X12_255 jn_X12_factOf rfl rfl rfl (fun _ => rfl) rfl rfl (fun r11 Mz12 Nz13 h => ?_)
            obtain ⟨rfl, rfl, h⟩ := h
            obtain ⟨hb14, h⟩ := h
            refine j_iald o (g := 12) (fun _ => rfl) hb14 dX12_longest_53 ?_
            refine j_iadd o dX12_longest_54 ?_
            refine j_istore o [(4, .int (x8 + ((upM M 1 0 0) 12 r11.toNatClampNeg))), (0, .ref (P.1 1)), (1, .int a1), (2, .int x5), (3, .int x6), (5, .int x9)] dX12_longest_55 (by decide) rfl ?_
            refine j_aload_n o dX12_longest_57 rfl ?_
            refine j_iload_n o dX12_longest_58 rfl ?_
            refine j_iload o dX12_longest_59 rfl ?_
            refine j_iload_n o dX12_longest_61 rfl ?_
            refine j_aload_n o dX12_longest_62 rfl ?_
            refine j_iload_n o dX12_longest_63 rfl ?_
            refine j_iload o dX12_longest_64 rfl ?_
            refine j_callVi (g := 1) (ci := 12) o (c_X12_factOf l P a1 x9 (upM M 1 0 0) N _ h) dX12_longest_66 jc_X12_255 jn_X12_factOf rfl rfl rfl (fun _ => rfl) rfl rfl (fun r15 Mz16 Nz17 h => ?_)
            obtain ⟨rfl, rfl, h⟩ := h
            refine j_callSi o (c_X12_has l P x6 r15 (upM M 1 0 0) N _ h) dX12_longest_69 jc_X12_157 jn_X12_has rfl rfl rfl rfl (fun r18 Mz19 Nz20 h => ?_)
            obtain ⟨rfl, rfl, h⟩ := h
            refine j_callVi (g := 1) (ci := 12) o (c_X12_nextOf l P a1 x9 r18 (upM M 1 0 0) N _ h) dX12_longest_72 jc_X12_258 jn_X12_nextOf rfl rfl rfl (fun _ => rfl) rfl rfl (fun r21 Mz22 Nz23 h => ?_)
            obtain ⟨rfl, rfl, h⟩ := h
            refine j_istore o [(5, .int r21), (4, .int (x8 + ((upM M 1 0 0) 12 r11.toNatClampNeg))), (0, .ref (P.1 1)), (1, .int a1), (2, .int x5), (3, .int x6)] dX12_longest_75 (by decide) rfl ?_
            refine j_goto o (tgt := 33) dX12_longest_77 (by decide) ?_
            exact j_pick [2, 3, 4, 5, 1, 0] rfl h)
        exact j_pick [2, 3, 4, 5, 1, 0] rfl h)
    exact j_pick [2, 3, 1, 0] rfl h
  · replace h := h.2 c4
    refine j_iconst o (v := (-1)) dX12_longest_13 rfl ?_
    rw [hE]
    exact j_iret o dX12_longest_14 ⟨_, rfl, rfl, rfl, h⟩

abbrev rm_X12_answersOf : Room := { frames := 1, cells := 0, slots := 0, locals := 21 }
def w_X12_answersOf (P : jP) (a1 : Int32) (a2 : Int32) (M : jM) (Q : Int32 → Prop) : Prop :=
  ∀ R5 : Int32 → Int32 → Prop, (∀ (x1 : Int32) (x2 : Int32), (
   ((M 1 26) ≤ x2 → (
    Q x1
   )) ∧ (¬ (M 1 26) ≤ x2 → (
    w_X12_has P a1 x2 (fun r4 =>
    ∀ R48 : Int32 → Prop, (∀ (x7 : Int32), (
     R5 (x1 ||| x7) (x2 + 1)
    ) → R48 x7) →
    (r4 = 0 → (
     R48 0
    )) ∧ (¬ r4 = 0 → (
     vp_in ((512 * x2) + a2) (5120) ∧
     ((M 14 ((512 * x2) + a2).toNatClampNeg) = 0 → (
      R48 0
     )) ∧ (¬ (M 14 ((512 * x2) + a2).toNatClampNeg) = 0 → (
      R48 ((1 : Int32) <<< (x2 &&& 31))
     ))
    )))
   ))
  ) → R5 x1 x2) →
  R5 0 0
set_option maxRecDepth 20000 in
theorem c_X12_answersOf (l : Launch) (P : jP) (a1 : Int32) (a2 : Int32) (M : jM) (N : jN) (Q : Int32 → Prop) (h : w_X12_answersOf P a1 a2 M Q) : jC l yX12_answersOf cX12_answersOf 5 (some .int) rm_X12_answersOf LM [.ref (P.1 1), .int a1, .int a2] P M N (jqi P (fun r M' N' => M = M' ∧ N = N' ∧ Q r )) := by
  refine jC_of (by decide +kernel) [(0, .ref (P.1 1)), (1, .int a1), (2, .int a2)] (Nat.le_of_ble_eq_true rfl) rfl (fun X o => ?_)
  obtain ⟨E, hE⟩ : ∃ E, E = jE X rm_X12_answersOf (jqi P (fun r M' N' => M = M' ∧ N = N' ∧ Q r )) := ⟨_, rfl⟩
  rw [← hE]
  unfold w_X12_answersOf at h
  refine j_iconst o (v := 0) dX12_answersOf_0 rfl ?_
  refine j_istore_n o [(3, .int 0), (0, .ref (P.1 1)), (1, .int a1), (2, .int a2)] dX12_answersOf_1 (by decide) rfl ?_
  refine j_iconst o (v := 0) dX12_answersOf_2 rfl ?_
  refine j_istore o [(4, .int 0), (3, .int 0), (0, .ref (P.1 1)), (1, .int a1), (2, .int a2)] dX12_answersOf_3 (by decide) rfl ?_
  replace h := h (fun (x1 : Int32) (x2 : Int32) => J X P M N 0 0 E 5 5 [(0, .ref (P.1 1)), (1, .int a1), (2, .int a2), (3, .int x1), (4, .int x2)] []) (by
    intro x1 x2 h
    refine j_iload o dX12_answersOf_5 rfl ?_
    refine j_aload_n o dX12_answersOf_7 rfl ?_
    refine j_getf o (g := 1) (slot := 26) (ci := 12) (v := .int (M 1 26)) rfl jin_X12 (by decide) rfl jf_X12_219 (fun _ => rfl) rfl dX12_answersOf_8 ?_
    refine j_icmp_ge o (tgt := 56) dX12_answersOf_11 (by decide) (fun c3 => ?_) (fun c3 => ?_)
    · replace h := h.1 c3
      refine j_iload_n o dX12_answersOf_56 rfl ?_
      rw [hE]
      exact j_iret o dX12_answersOf_57 ⟨_, rfl, rfl, rfl, rfl, h⟩
    · replace h := h.2 c3
      refine j_iload_n o dX12_answersOf_14 rfl ?_
      refine j_iload_n o dX12_answersOf_15 rfl ?_
      refine j_iload o dX12_answersOf_16 rfl ?_
      refine j_callSi o (c_X12_has l P a1 x2 M N _ h) dX12_answersOf_18 jc_X12_157 jn_X12_has rfl rfl rfl rfl (fun r4 Mz5 Nz6 h => ?_)
      obtain ⟨rfl, rfl, h⟩ := h
      replace h := h (fun (x7 : Int32) => J X P M N 0 0 E 5 48 [(0, .ref (P.1 1)), (1, .int a1), (2, .int a2), (4, .int x2)] [.int x7, .int x1]) (by
        intro x7 h
        refine j_ior o dX12_answersOf_48 ?_
        refine j_istore_n o [(3, .int (x1 ||| x7)), (0, .ref (P.1 1)), (1, .int a1), (2, .int a2), (4, .int x2)] dX12_answersOf_49 (by decide) rfl ?_
        refine j_iinc o (v := x2 + 1) [(4, .int (x2 + 1)), (3, .int (x1 ||| x7)), (0, .ref (P.1 1)), (1, .int a1), (2, .int a2)] dX12_answersOf_50 rfl rfl (by decide) rfl ?_
        refine j_goto o (tgt := 5) dX12_answersOf_53 (by decide) ?_
        exact j_pick [2, 3, 4, 1, 0] rfl h)
      refine j_if_eq o (tgt := 47) dX12_answersOf_21 (by decide) (fun c8 => ?_) (fun c8 => ?_)
      · replace h := h.1 c8
        refine j_iconst o (v := 0) dX12_answersOf_47 rfl ?_
        exact j_pick [0, 1, 2, 4] rfl h
      · replace h := h.2 c8
        refine j_aload_n o dX12_answersOf_24 rfl ?_
        refine j_getf o (g := 1) (slot := 23) (ci := 12) (v := .ref (P.1 14)) rfl jin_X12 (by decide) rfl jf_X12_47 (fun _ => rfl) rfl dX12_answersOf_25 ?_
        refine j_sipush o (v := 512) dX12_answersOf_28 rfl ?_
        refine j_iload o dX12_answersOf_31 rfl ?_
        refine j_imul o dX12_answersOf_33 ?_
        refine j_iload_n o dX12_answersOf_34 rfl ?_
        refine j_iadd o dX12_answersOf_35 ?_
        obtain ⟨hb9, h⟩ := h
        refine j_zald o (g := 14) (fun _ => rfl) hb9 dX12_answersOf_36 ?_
        refine j_if_eq o (tgt := 47) dX12_answersOf_37 (by decide) (fun c10 => ?_) (fun c10 => ?_)
        · replace h := h.1 c10
          refine j_iconst o (v := 0) dX12_answersOf_47 rfl ?_
          exact j_pick [0, 1, 2, 4] rfl h
        · replace h := h.2 c10
          refine j_iconst o (v := 1) dX12_answersOf_40 rfl ?_
          refine j_iload o dX12_answersOf_41 rfl ?_
          refine j_ishl o dX12_answersOf_43 ?_
          refine j_goto o (tgt := 48) dX12_answersOf_44 (by decide) ?_
          exact j_pick [0, 1, 2, 4] rfl h)
  exact j_pick [2, 3, 4, 1, 0] rfl h

abbrev rm_X12_isTold : Room := { frames := 2, cells := 0, slots := 0, locals := 45 }
def w_X12_isTold (P : jP) (a1 : Int32) (a2 : Int32) (M : jM) (Q : Int32 → jM → Prop) : Prop :=
  ∀ R2 : Int32 → jM → Prop, (∀ (x1 : Int32) (M2 : jM), (
   (1024 ≤ x1 → (
    ∀ R25 : Int32 → jM → Prop, (∀ (x4 : Int32) (M5 : jM), (
     ((M5 1 2) ≤ x4 → (
      Q 1 M5
     )) ∧ (¬ (M5 1 2) ≤ x4 → (
      w_X12_answersOf P a2 x4 M5 (fun r7 =>
      vp_in r7 (1024) ∧
      ∀ R71 : Prop, ((
       w_X12_saidOn P a1 x4 M5 (fun r11 =>
       vp_in r7 (1024) ∧
       R25 (x4 + 1) (upM M5 23 r7.toNatClampNeg r11))
      ) → R71) →
      ((M5 23 r7.toNatClampNeg) = (-2) → (
       R71
      )) ∧ (¬ (M5 23 r7.toNatClampNeg) = (-2) → (
       vp_in r7 (1024) ∧
       w_X12_saidOn P a1 x4 M5 (fun r17 =>
       ((M5 23 r7.toNatClampNeg) = r17 → (
        R71
       )) ∧ (¬ (M5 23 r7.toNatClampNeg) = r17 → (
        Q 0 M5
       )))
      )))
     ))
    ) → R25 x4 M5) →
    R25 0 M2
   )) ∧ (¬ 1024 ≤ x1 → (
    vp_in x1 (1024) ∧
    R2 (x1 + 1) (upM M2 23 x1.toNatClampNeg (-2))
   ))
  ) → R2 x1 M2) →
  R2 0 M
set_option maxRecDepth 20000 in
theorem c_X12_isTold (l : Launch) (P : jP) (a1 : Int32) (a2 : Int32) (M : jM) (N : jN) (Q : Int32 → jM → Prop) (h : w_X12_isTold P a1 a2 M Q) : jC l yX12_isTold cX12_isTold 5 (some .boolean) rm_X12_isTold LM [.ref (P.1 1), .int a1, .int a2] P M N (jqi P (fun r M' N' => N = N' ∧ Q r M' )) := by
  refine jC_of (by decide +kernel) [(0, .ref (P.1 1)), (1, .int a1), (2, .int a2)] (Nat.le_of_ble_eq_true rfl) rfl (fun X o => ?_)
  obtain ⟨E, hE⟩ : ∃ E, E = jE X rm_X12_isTold (jqi P (fun r M' N' => N = N' ∧ Q r M' )) := ⟨_, rfl⟩
  rw [← hE]
  unfold w_X12_isTold at h
  refine j_iconst o (v := 0) dX12_isTold_0 rfl ?_
  refine j_istore_n o [(3, .int 0), (0, .ref (P.1 1)), (1, .int a1), (2, .int a2)] dX12_isTold_1 (by decide) rfl ?_
  replace h := h (fun (x1 : Int32) (M2 : jM) => J X P M2 N 0 0 E 5 2 [(0, .ref (P.1 1)), (1, .int a1), (2, .int a2), (3, .int x1)] []) (by
    intro x1 M2 h
    refine j_iload_n o dX12_isTold_2 rfl ?_
    refine j_sipush o (v := 1024) dX12_isTold_3 rfl ?_
    refine j_icmp_ge o (tgt := 23) dX12_isTold_6 (by decide) (fun c3 => ?_) (fun c3 => ?_)
    · replace h := h.1 c3
      refine j_iconst o (v := 0) dX12_isTold_23 rfl ?_
      refine j_istore_n o [(3, .int 0), (0, .ref (P.1 1)), (1, .int a1), (2, .int a2)] dX12_isTold_24 (by decide) rfl ?_
      replace h := h (fun (x4 : Int32) (M5 : jM) => J X P M5 N 0 0 E 5 25 [(0, .ref (P.1 1)), (1, .int a1), (2, .int a2), (3, .int x4)] []) (by
        intro x4 M5 h
        refine j_iload_n o dX12_isTold_25 rfl ?_
        refine j_aload_n o dX12_isTold_26 rfl ?_
        refine j_getf o (g := 1) (slot := 2) (ci := 12) (v := .int (M5 1 2)) rfl jin_X12 (by decide) rfl jf_X12_111 (fun _ => rfl) rfl dX12_isTold_27 ?_
        refine j_icmp_ge o (tgt := 90) dX12_isTold_30 (by decide) (fun c6 => ?_) (fun c6 => ?_)
        · replace h := h.1 c6
          refine j_iconst o (v := 1) dX12_isTold_90 rfl ?_
          rw [hE]
          exact j_zret o rfl dX12_isTold_91 ⟨_, rfl, rfl, rfl, h⟩
        · replace h := h.2 c6
          refine j_aload_n o dX12_isTold_33 rfl ?_
          refine j_iload_n o dX12_isTold_34 rfl ?_
          refine j_iload_n o dX12_isTold_35 rfl ?_
          refine j_callVi (g := 1) (ci := 12) o (c_X12_answersOf l P a2 x4 M5 N _ h) dX12_isTold_36 jc_X12_327 jn_X12_answersOf rfl rfl rfl (fun _ => rfl) rfl rfl (fun r7 Mz8 Nz9 h => ?_)
          obtain ⟨rfl, rfl, h⟩ := h
          refine j_istore o [(4, .int r7), (0, .ref (P.1 1)), (1, .int a1), (2, .int a2), (3, .int x4)] dX12_isTold_39 (by decide) rfl ?_
          refine j_aload_n o dX12_isTold_41 rfl ?_
          refine j_getf o (g := 1) (slot := 36) (ci := 12) (v := .ref (P.1 23)) rfl jin_X12 (by decide) rfl jf_X12_77 (fun _ => rfl) rfl dX12_isTold_42 ?_
          refine j_iload o dX12_isTold_45 rfl ?_
          obtain ⟨hb10, h⟩ := h
          refine j_iald o (g := 23) (fun _ => rfl) hb10 dX12_isTold_47 ?_
          refine j_bipush o (v := (-2)) dX12_isTold_48 rfl ?_
          replace h := h (J X P M5 N 0 0 E 5 71 [(0, .ref (P.1 1)), (1, .int a1), (2, .int a2), (3, .int x4), (4, .int r7)] []) (by
            intro h
            refine j_aload_n o dX12_isTold_71 rfl ?_
            refine j_getf o (g := 1) (slot := 36) (ci := 12) (v := .ref (P.1 23)) rfl jin_X12 (by decide) rfl jf_X12_77 (fun _ => rfl) rfl dX12_isTold_72 ?_
            refine j_iload o dX12_isTold_75 rfl ?_
            refine j_aload_n o dX12_isTold_77 rfl ?_
            refine j_iload_n o dX12_isTold_78 rfl ?_
            refine j_iload_n o dX12_isTold_79 rfl ?_
            refine j_callVi (g := 1) (ci := 12) o (c_X12_saidOn l P a1 x4 M5 N _ h) dX12_isTold_80 jc_X12_239 jn_X12_saidOn rfl rfl rfl (fun _ => rfl) rfl rfl (fun r11 Mz12 Nz13 h => ?_)
            obtain ⟨rfl, rfl, h⟩ := h
            obtain ⟨hb14, h⟩ := h
            refine j_iast o (g := 23) (fun _ _ _ => rfl) hb14 dX12_isTold_83 ?_
            refine j_iinc o (v := x4 + 1) [(3, .int (x4 + 1)), (0, .ref (P.1 1)), (1, .int a1), (2, .int a2), (4, .int r7)] dX12_isTold_84 rfl rfl (by decide) rfl ?_
            refine j_goto o (tgt := 25) dX12_isTold_87 (by decide) ?_
            exact j_pick [1, 2, 3, 0] rfl h)
          refine j_icmp_eq o (tgt := 71) dX12_isTold_50 (by decide) (fun c15 => ?_) (fun c15 => ?_)
          · replace h := h.1 c15
            exact j_pick [1, 2, 3, 4, 0] rfl h
          · replace h := h.2 c15
            refine j_aload_n o dX12_isTold_53 rfl ?_
            refine j_getf o (g := 1) (slot := 36) (ci := 12) (v := .ref (P.1 23)) rfl jin_X12 (by decide) rfl jf_X12_77 (fun _ => rfl) rfl dX12_isTold_54 ?_
            refine j_iload o dX12_isTold_57 rfl ?_
            obtain ⟨hb16, h⟩ := h
            refine j_iald o (g := 23) (fun _ => rfl) hb16 dX12_isTold_59 ?_
            refine j_aload_n o dX12_isTold_60 rfl ?_
            refine j_iload_n o dX12_isTold_61 rfl ?_
            refine j_iload_n o dX12_isTold_62 rfl ?_
            refine j_callVi (g := 1) (ci := 12) o (c_X12_saidOn l P a1 x4 M5 N _ h) dX12_isTold_63 jc_X12_239 jn_X12_saidOn rfl rfl rfl (fun _ => rfl) rfl rfl (fun r17 Mz18 Nz19 h => ?_)
            obtain ⟨rfl, rfl, h⟩ := h
            refine j_icmp_eq o (tgt := 71) dX12_isTold_66 (by decide) (fun c20 => ?_) (fun c20 => ?_)
            · replace h := h.1 c20
              exact j_pick [1, 2, 3, 4, 0] rfl h
            · replace h := h.2 c20
              refine j_iconst o (v := 0) dX12_isTold_69 rfl ?_
              rw [hE]
              exact j_zret o rfl dX12_isTold_70 ⟨_, rfl, rfl, rfl, h⟩)
      exact j_pick [1, 2, 3, 0] rfl h
    · replace h := h.2 c3
      refine j_aload_n o dX12_isTold_9 rfl ?_
      refine j_getf o (g := 1) (slot := 36) (ci := 12) (v := .ref (P.1 23)) rfl jin_X12 (by decide) rfl jf_X12_77 (fun _ => rfl) rfl dX12_isTold_10 ?_
      refine j_iload_n o dX12_isTold_13 rfl ?_
      refine j_bipush o (v := (-2)) dX12_isTold_14 rfl ?_
      obtain ⟨hb21, h⟩ := h
      refine j_iast o (g := 23) (fun _ _ _ => rfl) hb21 dX12_isTold_16 ?_
      refine j_iinc o (v := x1 + 1) [(3, .int (x1 + 1)), (0, .ref (P.1 1)), (1, .int a1), (2, .int a2)] dX12_isTold_17 rfl rfl (by decide) rfl ?_
      refine j_goto o (tgt := 2) dX12_isTold_20 (by decide) ?_
      exact j_pick [1, 2, 3, 0] rfl h)
  exact j_pick [1, 2, 3, 0] rfl h
