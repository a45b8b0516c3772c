abbrev rm_X11_burdenOf : Room := { frames := 3, cells := 0, slots := 0, locals := 62 }
def w_X11_burdenOf (P : jP) (a1 : Nat) (a2 : Int32) (M : jM) (Q : Int32 → Prop) : Prop :=
  ∀ R5 : Int32 → Int32 → Prop, (∀ (x1 : Int32) (x2 : Int32), (
   ((M 2 2) ≤ x2 → (
    Q x1
   )) ∧ (¬ (M 2 2) ≤ x2 → (
    cLw P a1 = true ∧
    jin P (a1 + 2) x2 ∧
    cLw P a1 = true ∧
    w_X4_outcomeOf P a1 ((M (a1 + 2) x2.toNatClampNeg) &&& (((1 : Int32) <<< (a2 &&& 31)) ^^^ (-1))) M (fun r6 =>
    cLw P a1 = true ∧
    jin P (a1 + 3) x2 ∧
    ∀ R47 : Int32 → Prop, (∀ (x12 : Int32), (
     R5 x12 (x2 + 1)
    ) → R47 x12) →
    (r6 = (M (a1 + 3) x2.toNatClampNeg) → (
     R47 x1
    )) ∧ (¬ r6 = (M (a1 + 3) x2.toNatClampNeg) → (
     R47 (x1 + 1)
    )))
   ))
  ) → R5 x1 x2) →
  R5 0 0
set_option maxRecDepth 20000 in
theorem c_X11_burdenOf (l : Launch) (P : jP) (a1 : Nat) (a2 : Int32) (M : jM) (N : jN) (Q : Int32 → Prop) (h : w_X11_burdenOf P a1 a2 M Q) : jC l yX11_burdenOf cX11_burdenOf 5 (some .int) rm_X11_burdenOf LC [.ref (P.1 1), .ref (P.1 a1), .int a2] P M N (jqi P (fun r M' N' => M = M' ∧ N = N' ∧ Q r )) := by
  refine jC_of (by decide +kernel) [(0, .ref (P.1 1)), (1, .ref (P.1 a1)), (2, .int a2)] (Nat.le_of_ble_eq_true rfl) rfl (fun X o => ?_)
  obtain ⟨E, hE⟩ : ∃ E, E = jE X rm_X11_burdenOf (jqi P (fun r M' N' => M = M' ∧ N = N' ∧ Q r )) := ⟨_, rfl⟩
  rw [← hE]
  unfold w_X11_burdenOf at h
  refine j_iconst o (v := 0) dX11_burdenOf_0 rfl ?_
  refine j_istore_n o [(3, .int 0), (0, .ref (P.1 1)), (1, .ref (P.1 a1)), (2, .int a2)] dX11_burdenOf_1 (by decide) rfl ?_
  refine j_iconst o (v := 0) dX11_burdenOf_2 rfl ?_
  refine j_istore o [(4, .int 0), (3, .int 0), (0, .ref (P.1 1)), (1, .ref (P.1 a1)), (2, .int a2)] dX11_burdenOf_3 (by decide) rfl ?_
  replace h := h (fun (x1 : Int32) (x2 : Int32) => J X P M N 0 0 E 5 5 [(0, .ref (P.1 1)), (1, .ref (P.1 a1)), (2, .int a2), (3, .int x1), (4, .int x2)] []) (by
    intro x1 x2 h
    refine j_iload o dX11_burdenOf_5 rfl ?_
    refine j_aload_n o dX11_burdenOf_7 rfl ?_
    refine j_getf o (g := 1) (slot := 0) (ci := 11) (v := .ref (P.1 2)) rfl jin_X11 (by decide) rfl jf_X11_23 (fun _ => rfl) rfl dX11_burdenOf_8 ?_
    refine j_getf o (g := 2) (slot := 2) (ci := 3) (v := .int (M 2 2)) rfl jin_X3 (by decide) rfl jf_X11_77 (fun _ => rfl) rfl dX11_burdenOf_11 ?_
    refine j_icmp_ge o (tgt := 53) dX11_burdenOf_14 (by decide) (fun c3 => ?_) (fun c3 => ?_)
    · replace h := h.1 c3
      refine j_iload_n o dX11_burdenOf_53 rfl ?_
      rw [hE]
      exact j_iret o dX11_burdenOf_54 ⟨_, rfl, rfl, rfl, rfl, h⟩
    · replace h := h.2 c3
      refine j_aload_n o dX11_burdenOf_17 rfl ?_
      refine j_aload_n o dX11_burdenOf_18 rfl ?_
      obtain ⟨hb4, h⟩ := h
      refine j_getf o (g := a1) (slot := 2) (ci := 4) (v := .ref (P.1 (a1 + 2))) rfl jin_X4 (by decide) rfl jf_X11_158 (fun tA => LC_lw hb4 tA _ _) rfl dX11_burdenOf_19 ?_
      refine j_iload o dX11_burdenOf_22 rfl ?_
      obtain ⟨hb5, h⟩ := h
      obtain ⟨nnhb5, hchb5, hihb5⟩ := hb5
      refine j_iald o (g := a1 + 2) (fun tA => LC_ia hchb5 tA _ _) hihb5 dX11_burdenOf_24 ?_
      refine j_iconst o (v := 1) dX11_burdenOf_25 rfl ?_
      refine j_iload_n o dX11_burdenOf_26 rfl ?_
      refine j_ishl o dX11_burdenOf_27 ?_
      refine j_iconst o (v := (-1)) dX11_burdenOf_28 rfl ?_
      refine j_ixor o dX11_burdenOf_29 ?_
      refine j_iand o dX11_burdenOf_30 ?_
      obtain ⟨hb9, h⟩ := h
      refine j_callVi (g := a1) (ci := 4) o (c_X4_outcomeOf l P a1 ((M (a1 + 2) x2.toNatClampNeg) &&& (((1 : Int32) <<< (a2 &&& 31)) ^^^ (-1))) M N _ h) dX11_burdenOf_31 jc_X11_167 jn_X4_outcomeOf rfl rfl rfl (fun tA => LC_lw hb9 tA _ _) rfl rfl (fun r6 Mz7 Nz8 h => ?_)
      obtain ⟨rfl, rfl, h⟩ := h
      refine j_aload_n o dX11_burdenOf_34 rfl ?_
      obtain ⟨hb10, h⟩ := h
      refine j_getf o (g := a1) (slot := 3) (ci := 4) (v := .ref (P.1 (a1 + 3))) rfl jin_X4 (by decide) rfl jf_X11_164 (fun tA => LC_lw hb10 tA _ _) rfl dX11_burdenOf_35 ?_
      refine j_iload o dX11_burdenOf_38 rfl ?_
      obtain ⟨hb11, h⟩ := h
      obtain ⟨nnhb11, hchb11, hihb11⟩ := hb11
      refine j_iald o (g := a1 + 3) (fun tA => LC_ia hchb11 tA _ _) hihb11 dX11_burdenOf_40 ?_
      replace h := h (fun (x12 : Int32) => J X P M N 0 0 E 5 47 [(0, .ref (P.1 1)), (1, .ref (P.1 a1)), (2, .int a2), (3, .int x12), (4, .int x2)] []) (by
        intro x12 h
        refine j_iinc o (v := x2 + 1) [(4, .int (x2 + 1)), (0, .ref (P.1 1)), (1, .ref (P.1 a1)), (2, .int a2), (3, .int x12)] dX11_burdenOf_47 rfl rfl (by decide) rfl ?_
        refine j_goto o (tgt := 5) dX11_burdenOf_50 (by decide) ?_
        exact j_pick [1, 2, 3, 4, 0] rfl h)
      refine j_icmp_eq o (tgt := 47) dX11_burdenOf_41 (by decide) (fun c13 => ?_) (fun c13 => ?_)
      · replace h := h.1 c13
        exact j_pick [0, 1, 2, 3, 4] rfl h
      · replace h := h.2 c13
        refine j_iinc o (v := x1 + 1) [(3, .int (x1 + 1)), (0, .ref (P.1 1)), (1, .ref (P.1 a1)), (2, .int a2), (4, .int x2)] dX11_burdenOf_44 rfl rfl (by decide) rfl ?_
        exact j_pick [1, 2, 3, 0, 4] rfl h)
  exact j_pick [2, 3, 4, 1, 0] rfl h

abbrev rm_X11_burden : Room := { frames := 4, cells := 0, slots := 0, locals := 86 }
def w_X11_burden (P : jP) (a1 : Int32) (a2 : Int32) (M : jM) (Q : Int32 → Prop) : Prop :=
  w_X11_lawAt P a1 M (fun r1 =>
  (r1 = 0 → (
   Q (-1)
  )) ∧ (r1 ≠ 0 → (
   (a2 < (-1) → (
    Q (-1)
   )) ∧ (¬ a2 < (-1) → (
    cLw P r1 = true ∧
    (a2 < (M r1 0) → (
     (a2 = (-1) → (
      ∀ R43 : Int32 → Int32 → Prop, (∀ (x9 : Int32) (x10 : Int32), (
       cLw P r1 = true ∧
       ((M r1 0) ≤ x10 → (
        Q x9
       )) ∧ (¬ (M r1 0) ≤ x10 → (
        w_X11_burdenOf P r1 x10 M (fun r13 =>
        ∀ R71 : Int32 → Prop, (∀ (x16 : Int32), (
         R43 x16 (x10 + 1)
        ) → R71 x16) →
        (¬ r13 = 0 → (
         R71 x9
        )) ∧ (r13 = 0 → (
         R71 (x9 ||| ((1 : Int32) <<< (x10 &&& 31)))
        )))
       ))
      ) → R43 x9 x10) →
      R43 0 0
     )) ∧ (¬ a2 = (-1) → (
      w_X11_burdenOf P r1 a2 M (fun r18 =>
      Q r18)
     ))
    )) ∧ (¬ a2 < (M r1 0) → (
     Q (-1)
    ))
   ))
  )))
set_option maxRecDepth 20000 in
theorem c_X11_burden (l : Launch) (P : jP) (a1 : Int32) (a2 : Int32) (M : jM) (N : jN) (Q : Int32 → Prop) (h : w_X11_burden P a1 a2 M Q) : jC l yX11_burden cX11_burden 6 (some .int) rm_X11_burden LC [.ref (P.1 1), .int a1, .int a2] P M N (jqi P (fun r M' N' => M = M' ∧ N = N' ∧ Q r )) := by
  refine jC_of (by decide +kernel) [(0, .ref (P.1 1)), (1, .int a1), (2, .int a2)] (Nat.le_of_ble_eq_true rfl) rfl (fun X o => ?_)
  obtain ⟨E, hE⟩ : ∃ E, E = jE X rm_X11_burden (jqi P (fun r M' N' => M = M' ∧ N = N' ∧ Q r )) := ⟨_, rfl⟩
  rw [← hE]
  unfold w_X11_burden at h
  refine j_aload_n o dX11_burden_0 rfl ?_
  refine j_iload_n o dX11_burden_1 rfl ?_
  refine j_callVr (g := 1) (ci := 11) o (c_X11_lawAt l P a1 M N _ h) dX11_burden_2 jc_X11_191 jn_X11_lawAt rfl rfl rfl (fun _ => rfl) rfl rfl (fun r1 Mz2 Nz3 h => ?_)
  obtain ⟨rfl, rfl, h⟩ := h
  refine j_qstore_n o [(3, jrf P r1), (0, .ref (P.1 1)), (1, .int a1), (2, .int a2)] dX11_burden_5 (by decide) rfl ?_
  refine j_qload_n o (g := r1) rfl dX11_burden_6 ?_
  refine j_null2 o (tgt := 23) dX11_burden_7 (by decide) (fun c4 => ?_) (fun c4 => ?_)
  · replace h := h.1 c4
    refine j_iconst o (v := (-1)) dX11_burden_23 rfl ?_
    rw [hE]
    exact j_iret o dX11_burden_24 ⟨_, rfl, rfl, rfl, rfl, h⟩
  · replace h := h.2 c4
    try rw [jrf_n P c4]
    refine j_iload_n o dX11_burden_10 rfl ?_
    refine j_iconst o (v := (-1)) dX11_burden_11 rfl ?_
    refine j_icmp_lt o (tgt := 23) dX11_burden_12 (by decide) (fun c5 => ?_) (fun c5 => ?_)
    · replace h := h.1 c5
      refine j_iconst o (v := (-1)) dX11_burden_23 rfl ?_
      rw [hE]
      exact j_iret o dX11_burden_24 ⟨_, rfl, rfl, rfl, rfl, h⟩
    · replace h := h.2 c5
      refine j_iload_n o dX11_burden_15 rfl ?_
      refine j_aload_n o dX11_burden_16 rfl ?_
      obtain ⟨hb6, h⟩ := h
      refine j_getf o (g := r1) (slot := 0) (ci := 4) (v := .int (M r1 0)) rfl jin_X4 (by decide) rfl jf_X11_361 (fun tA => LC_lw hb6 tA _ _) rfl dX11_burden_17 ?_
      refine j_icmp_lt o (tgt := 25) dX11_burden_20 (by decide) (fun c7 => ?_) (fun c7 => ?_)
      · replace h := h.1 c7
        refine j_iload_n o dX11_burden_25 rfl ?_
        refine j_iconst o (v := (-1)) dX11_burden_26 rfl ?_
        refine j_icmp_eq o (tgt := 37) dX11_burden_27 (by decide) (fun c8 => ?_) (fun c8 => ?_)
        · replace h := h.1 c8
          refine j_iconst o (v := 0) dX11_burden_37 rfl ?_
          refine j_istore o [(4, .int 0), (3, .ref (P.1 r1)), (0, .ref (P.1 1)), (1, .int a1), (2, .int a2)] dX11_burden_38 (by decide) rfl ?_
          refine j_iconst o (v := 0) dX11_burden_40 rfl ?_
          refine j_istore o [(5, .int 0), (4, .int 0), (3, .ref (P.1 r1)), (0, .ref (P.1 1)), (1, .int a1), (2, .int a2)] dX11_burden_41 (by decide) rfl ?_
          replace h := h (fun (x9 : Int32) (x10 : Int32) => J X P M N 0 0 E 6 43 [(0, .ref (P.1 1)), (3, .ref (P.1 r1)), (4, .int x9), (5, .int x10)] []) (by
            intro x9 x10 h
            refine j_iload o dX11_burden_43 rfl ?_
            refine j_aload_n o dX11_burden_45 rfl ?_
            obtain ⟨hb11, h⟩ := h
            refine j_getf o (g := r1) (slot := 0) (ci := 4) (v := .int (M r1 0)) rfl jin_X4 (by decide) rfl jf_X11_361 (fun tA => LC_lw hb11 tA _ _) rfl dX11_burden_46 ?_
            refine j_icmp_ge o (tgt := 77) dX11_burden_49 (by decide) (fun c12 => ?_) (fun c12 => ?_)
            · replace h := h.1 c12
              refine j_iload o dX11_burden_77 rfl ?_
              rw [hE]
              exact j_iret o dX11_burden_79 ⟨_, rfl, rfl, rfl, rfl, h⟩
            · replace h := h.2 c12
              refine j_aload_n o dX11_burden_52 rfl ?_
              refine j_aload_n o dX11_burden_53 rfl ?_
              refine j_iload o dX11_burden_54 rfl ?_
              refine j_callVi (g := 1) (ci := 11) o (c_X11_burdenOf l P r1 x10 M N _ h) dX11_burden_56 jc_X11_364 jn_X11_burdenOf rfl rfl rfl (fun _ => rfl) rfl rfl (fun r13 Mz14 Nz15 h => ?_)
              obtain ⟨rfl, rfl, h⟩ := h
              replace h := h (fun (x16 : Int32) => J X P M N 0 0 E 6 71 [(0, .ref (P.1 1)), (3, .ref (P.1 r1)), (4, .int x16), (5, .int x10)] []) (by
                intro x16 h
                refine j_iinc o (v := x10 + 1) [(5, .int (x10 + 1)), (0, .ref (P.1 1)), (3, .ref (P.1 r1)), (4, .int x16)] dX11_burden_71 rfl rfl (by decide) rfl ?_
                refine j_goto o (tgt := 43) dX11_burden_74 (by decide) ?_
                exact j_pick [1, 2, 3, 0] rfl h)
              refine j_if_ne o (tgt := 71) dX11_burden_59 (by decide) (fun c17 => ?_) (fun c17 => ?_)
              · replace h := h.1 c17
                exact j_pick [0, 1, 2, 3] rfl h
              · replace h := h.2 c17
                refine j_iload o dX11_burden_62 rfl ?_
                refine j_iconst o (v := 1) dX11_burden_64 rfl ?_
                refine j_iload o dX11_burden_65 rfl ?_
                refine j_ishl o dX11_burden_67 ?_
                refine j_ior o dX11_burden_68 ?_
                refine j_istore o [(4, .int (x9 ||| ((1 : Int32) <<< (x10 &&& 31)))), (0, .ref (P.1 1)), (3, .ref (P.1 r1)), (5, .int x10)] dX11_burden_69 (by decide) rfl ?_
                exact j_pick [1, 2, 0, 3] rfl h)
          exact j_pick [3, 2, 1, 0] rfl h
        · replace h := h.2 c8
          refine j_aload_n o dX11_burden_30 rfl ?_
          refine j_aload_n o dX11_burden_31 rfl ?_
          refine j_iload_n o dX11_burden_32 rfl ?_
          refine j_callVi (g := 1) (ci := 11) o (c_X11_burdenOf l P r1 a2 M N _ h) dX11_burden_33 jc_X11_364 jn_X11_burdenOf rfl rfl rfl (fun _ => rfl) rfl rfl (fun r18 Mz19 Nz20 h => ?_)
          obtain ⟨rfl, rfl, h⟩ := h
          rw [hE]
          exact j_iret o dX11_burden_36 ⟨_, rfl, rfl, rfl, rfl, h⟩
      · replace h := h.2 c7
        refine j_iconst o (v := (-1)) dX11_burden_23 rfl ?_
        rw [hE]
        exact j_iret o dX11_burden_24 ⟨_, rfl, rfl, rfl, rfl, h⟩

abbrev rm_X11_office : Room := { frames := 1, cells := 0, slots := 0, locals := 21 }
def w_X11_office (P : jP) (a1 : Int32) (a2 : Int32) (a3 : Int32) (M : jM) (Q : Int32 → Prop) : Prop :=
  w_X11_lawAt P a1 M (fun r1 =>
  (r1 = 0 → (
   Q (-1)
  )) ∧ (r1 ≠ 0 → (
   w_X3_isFact P a2 M (fun r5 =>
   (r5 = 0 → (
    Q (-1)
   )) ∧ (¬ r5 = 0 → (
    w_X3_isFact P a3 M (fun r9 =>
    (r9 = 0 → (
     Q (-1)
    )) ∧ (¬ r9 = 0 → (
     (¬ a2 = a3 → (
      ∀ R47 : Int32 → Int32 → Prop, (∀ (x14 : Int32) (x15 : Int32), (
       ((M 2 2) ≤ x15 → (
        Q x14
       )) ∧ (¬ (M 2 2) ≤ x15 → (
        ∀ R79 : Int32 → Prop, (∀ (x17 : Int32), (
         ∀ R101 : Int32 → Prop, (∀ (x18 : Int32), (
          cLw P r1 = true ∧
          jin P (r1 + 3) x18 ∧
          cLw P r1 = true ∧
          jin P (r1 + 3) x15 ∧
          ∀ R125 : Int32 → Prop, (∀ (x23 : Int32), (
           R47 x23 (x15 + 1)
          ) → R125 x23) →
          ((M (r1 + 3) x18.toNatClampNeg) = (M (r1 + 3) x15.toNatClampNeg) → (
           R125 x14
          )) ∧ (¬ (M (r1 + 3) x18.toNatClampNeg) = (M (r1 + 3) x15.toNatClampNeg) → (
           R125 (x14 + 1)
          ))
         ) → R101 x18) →
         (x17 = 0 → (
          R101 (x15 ^^^ (((1 : Int32) <<< (a2 &&& 31)) ||| ((1 : Int32) <<< (a3 &&& 31))))
         )) ∧ (¬ x17 = 0 → (
          R101 x15
         ))
        ) → R79 x17) →
        (¬ ((x15 >>> (a2 &&& 31)) &&& 1) = ((x15 >>> (a3 &&& 31)) &&& 1) → (
         R79 0
        )) ∧ (((x15 >>> (a2 &&& 31)) &&& 1) = ((x15 >>> (a3 &&& 31)) &&& 1) → (
         R79 1
        ))
       ))
      ) → R47 x14 x15) →
      R47 0 0
     )) ∧ (a2 = a3 → (
      Q (-1)
     ))
    )))
   )))
  )))
set_option maxRecDepth 20000 in
theorem c_X11_office (l : Launch) (P : jP) (a1 : Int32) (a2 : Int32) (a3 : Int32) (M : jM) (N : jN) (Q : Int32 → Prop) (h : w_X11_office P a1 a2 a3 M Q) : jC l yX11_office cX11_office 9 (some .int) rm_X11_office LC [.ref (P.1 1), .int a1, .int a2, .int a3] P M N (jqi P (fun r M' N' => M = M' ∧ N = N' ∧ Q r )) := by
  refine jC_of (by decide +kernel) [(0, .ref (P.1 1)), (1, .int a1), (2, .int a2), (3, .int a3)] (Nat.le_of_ble_eq_true rfl) rfl (fun X o => ?_)
  obtain ⟨E, hE⟩ : ∃ E, E = jE X rm_X11_office (jqi P (fun r M' N' => M = M' ∧ N = N' ∧ Q r )) := ⟨_, rfl⟩
  rw [← hE]
  unfold w_X11_office at h
  refine j_aload_n o dX11_office_0 rfl ?_
  refine j_iload_n o dX11_office_1 rfl ?_
  refine j_callVr (g := 1) (ci := 11) o (c_X11_lawAt l P a1 M N _ h) dX11_office_2 jc_X11_191 jn_X11_lawAt rfl rfl rfl (fun _ => rfl) rfl rfl (fun r1 Mz2 Nz3 h => ?_)
  obtain ⟨rfl, rfl, h⟩ := h
  refine j_qstore o [(4, jrf P r1), (0, .ref (P.1 1)), (1, .int a1), (2, .int a2), (3, .int a3)] dX11_office_5 (by decide) rfl ?_
  refine j_qload o (g := r1) rfl dX11_office_7 ?_
  refine j_null2 o (tgt := 39) dX11_office_9 (by decide) (fun c4 => ?_) (fun c4 => ?_)
  · replace h := h.1 c4
    refine j_iconst o (v := (-1)) dX11_office_39 rfl ?_
    rw [hE]
    exact j_iret o dX11_office_40 ⟨_, rfl, rfl, rfl, rfl, h⟩
  · replace h := h.2 c4
    try rw [jrf_n P c4]
    refine j_aload_n o dX11_office_12 rfl ?_
    refine j_getf o (g := 1) (slot := 0) (ci := 11) (v := .ref (P.1 2)) rfl jin_X11 (by decide) rfl jf_X11_23 (fun _ => rfl) rfl dX11_office_13 ?_
    refine j_iload_n o dX11_office_16 rfl ?_
    refine j_callVi (g := 2) (ci := 3) o (c_X3_isFact l P a2 M N _ h) dX11_office_17 jc_X11_367 jn_X3_isFact rfl rfl rfl (fun _ => rfl) rfl rfl (fun r5 Mz6 Nz7 h => ?_)
    obtain ⟨rfl, rfl, h⟩ := h
    refine j_if_eq o (tgt := 39) dX11_office_20 (by decide) (fun c8 => ?_) (fun c8 => ?_)
    · replace h := h.1 c8
      refine j_iconst o (v := (-1)) dX11_office_39 rfl ?_
      rw [hE]
      exact j_iret o dX11_office_40 ⟨_, rfl, rfl, rfl, rfl, h⟩
    · replace h := h.2 c8
      refine j_aload_n o dX11_office_23 rfl ?_
      refine j_getf o (g := 1) (slot := 0) (ci := 11) (v := .ref (P.1 2)) rfl jin_X11 (by decide) rfl jf_X11_23 (fun _ => rfl) rfl dX11_office_24 ?_
      refine j_iload_n o dX11_office_27 rfl ?_
      refine j_callVi (g := 2) (ci := 3) o (c_X3_isFact l P a3 M N _ h) dX11_office_28 jc_X11_367 jn_X3_isFact rfl rfl rfl (fun _ => rfl) rfl rfl (fun r9 Mz10 Nz11 h => ?_)
      obtain ⟨rfl, rfl, h⟩ := h
      refine j_if_eq o (tgt := 39) dX11_office_31 (by decide) (fun c12 => ?_) (fun c12 => ?_)
      · replace h := h.1 c12
        refine j_iconst o (v := (-1)) dX11_office_39 rfl ?_
        rw [hE]
        exact j_iret o dX11_office_40 ⟨_, rfl, rfl, rfl, rfl, h⟩
      · replace h := h.2 c12
        refine j_iload_n o dX11_office_34 rfl ?_
        refine j_iload_n o dX11_office_35 rfl ?_
        refine j_icmp_ne o (tgt := 41) dX11_office_36 (by decide) (fun c13 => ?_) (fun c13 => ?_)
        · replace h := h.1 c13
          refine j_iconst o (v := 0) dX11_office_41 rfl ?_
          refine j_istore o [(5, .int 0), (4, .ref (P.1 r1)), (0, .ref (P.1 1)), (1, .int a1), (2, .int a2), (3, .int a3)] dX11_office_42 (by decide) rfl ?_
          refine j_iconst o (v := 0) dX11_office_44 rfl ?_
          refine j_istore o [(6, .int 0), (5, .int 0), (4, .ref (P.1 r1)), (0, .ref (P.1 1)), (1, .int a1), (2, .int a2), (3, .int a3)] dX11_office_45 (by decide) rfl ?_
          replace h := h (fun (x14 : Int32) (x15 : Int32) => J X P M N 0 0 E 9 47 [(0, .ref (P.1 1)), (2, .int a2), (3, .int a3), (4, .ref (P.1 r1)), (5, .int x14), (6, .int x15)] []) (by
            intro x14 x15 h
            refine j_iload o dX11_office_47 rfl ?_
            refine j_aload_n o dX11_office_49 rfl ?_
            refine j_getf o (g := 1) (slot := 0) (ci := 11) (v := .ref (P.1 2)) rfl jin_X11 (by decide) rfl jf_X11_23 (fun _ => rfl) rfl dX11_office_50 ?_
            refine j_getf o (g := 2) (slot := 2) (ci := 3) (v := .int (M 2 2)) rfl jin_X3 (by decide) rfl jf_X11_77 (fun _ => rfl) rfl dX11_office_53 ?_
            refine j_icmp_ge o (tgt := 131) dX11_office_56 (by decide) (fun c16 => ?_) (fun c16 => ?_)
            · replace h := h.1 c16
              refine j_iload o dX11_office_131 rfl ?_
              rw [hE]
              exact j_iret o dX11_office_133 ⟨_, rfl, rfl, rfl, rfl, h⟩
            · replace h := h.2 c16
              refine j_iload o dX11_office_59 rfl ?_
              refine j_iload_n o dX11_office_61 rfl ?_
              refine j_ishr o dX11_office_62 ?_
              refine j_iconst o (v := 1) dX11_office_63 rfl ?_
              refine j_iand o dX11_office_64 ?_
              refine j_iload o dX11_office_65 rfl ?_
              refine j_iload_n o dX11_office_67 rfl ?_
              refine j_ishr o dX11_office_68 ?_
              refine j_iconst o (v := 1) dX11_office_69 rfl ?_
              refine j_iand o dX11_office_70 ?_
              replace h := h (fun (x17 : Int32) => J X P M N 0 0 E 9 79 [(0, .ref (P.1 1)), (2, .int a2), (3, .int a3), (4, .ref (P.1 r1)), (5, .int x14), (6, .int x15)] [.int x17]) (by
                intro x17 h
                refine j_istore o [(7, .int x17), (0, .ref (P.1 1)), (2, .int a2), (3, .int a3), (4, .ref (P.1 r1)), (5, .int x14), (6, .int x15)] dX11_office_79 (by decide) rfl ?_
                refine j_iload o dX11_office_81 rfl ?_
                replace h := h (fun (x18 : Int32) => J X P M N 0 0 E 9 101 [(0, .ref (P.1 1)), (2, .int a2), (3, .int a3), (4, .ref (P.1 r1)), (5, .int x14), (6, .int x15)] [.int x18]) (by
                  intro x18 h
                  refine j_istore o [(8, .int x18), (0, .ref (P.1 1)), (2, .int a2), (3, .int a3), (4, .ref (P.1 r1)), (5, .int x14), (6, .int x15)] dX11_office_101 (by decide) rfl ?_
                  refine j_aload o dX11_office_103 rfl ?_
                  obtain ⟨hb19, h⟩ := h
                  refine j_getf o (g := r1) (slot := 3) (ci := 4) (v := .ref (P.1 (r1 + 3))) rfl jin_X4 (by decide) rfl jf_X11_164 (fun tA => LC_lw hb19 tA _ _) rfl dX11_office_105 ?_
                  refine j_iload o dX11_office_108 rfl ?_
                  obtain ⟨hb20, h⟩ := h
                  obtain ⟨nnhb20, hchb20, hihb20⟩ := hb20
                  refine j_iald o (g := r1 + 3) (fun tA => LC_ia hchb20 tA _ _) hihb20 dX11_office_110 ?_
                  refine j_aload o dX11_office_111 rfl ?_
                  obtain ⟨hb21, h⟩ := h
                  refine j_getf o (g := r1) (slot := 3) (ci := 4) (v := .ref (P.1 (r1 + 3))) rfl jin_X4 (by decide) rfl jf_X11_164 (fun tA => LC_lw hb21 tA _ _) rfl dX11_office_113 ?_
                  refine j_iload o dX11_office_116 rfl ?_
                  obtain ⟨hb22, h⟩ := h
                  obtain ⟨nnhb22, hchb22, hihb22⟩ := hb22
                  refine j_iald o (g := r1 + 3) (fun tA => LC_ia hchb22 tA _ _) hihb22 dX11_office_118 ?_
                  replace h := h (fun (x23 : Int32) => J X P M N 0 0 E 9 125 [(0, .ref (P.1 1)), (2, .int a2), (3, .int a3), (4, .ref (P.1 r1)), (5, .int x23), (6, .int x15)] []) (by
                    intro x23 h
                    refine j_iinc o (v := x15 + 1) [(6, .int (x15 + 1)), (0, .ref (P.1 1)), (2, .int a2), (3, .int a3), (4, .ref (P.1 r1)), (5, .int x23)] dX11_office_125 rfl rfl (by decide) rfl ?_
                    refine j_goto o (tgt := 47) dX11_office_128 (by decide) ?_
                    exact j_pick [1, 2, 3, 4, 5, 0] rfl h)
                  refine j_icmp_eq o (tgt := 125) dX11_office_119 (by decide) (fun c24 => ?_) (fun c24 => ?_)
                  · replace h := h.1 c24
                    exact j_pick [1, 2, 3, 4, 5, 6] rfl h
                  · replace h := h.2 c24
                    refine j_iinc o (v := x14 + 1) [(5, .int (x14 + 1)), (8, .int x18), (0, .ref (P.1 1)), (2, .int a2), (3, .int a3), (4, .ref (P.1 r1)), (6, .int x15)] dX11_office_122 rfl rfl (by decide) rfl ?_
                    exact j_pick [2, 3, 4, 5, 0, 6] rfl h)
                refine j_if_eq o (tgt := 91) dX11_office_83 (by decide) (fun c25 => ?_) (fun c25 => ?_)
                · replace h := h.1 c25
                  refine j_iload o dX11_office_91 rfl ?_
                  refine j_iconst o (v := 1) dX11_office_93 rfl ?_
                  refine j_iload_n o dX11_office_94 rfl ?_
                  refine j_ishl o dX11_office_95 ?_
                  refine j_iconst o (v := 1) dX11_office_96 rfl ?_
                  refine j_iload_n o dX11_office_97 rfl ?_
                  refine j_ishl o dX11_office_98 ?_
                  refine j_ior o dX11_office_99 ?_
                  refine j_ixor o dX11_office_100 ?_
                  exact j_pick [1, 2, 3, 4, 5, 6] rfl h
                · replace h := h.2 c25
                  refine j_iload o dX11_office_86 rfl ?_
                  refine j_goto o (tgt := 101) dX11_office_88 (by decide) ?_
                  exact j_pick [1, 2, 3, 4, 5, 6] rfl h)
              refine j_icmp_ne o (tgt := 78) dX11_office_71 (by decide) (fun c26 => ?_) (fun c26 => ?_)
              · replace h := h.1 c26
                refine j_iconst o (v := 0) dX11_office_78 rfl ?_
                exact j_pick [0, 1, 2, 3, 4, 5] rfl h
              · replace h := h.2 c26
                refine j_iconst o (v := 1) dX11_office_74 rfl ?_
                refine j_goto o (tgt := 79) dX11_office_75 (by decide) ?_
                exact j_pick [0, 1, 2, 3, 4, 5] rfl h)
          exact j_pick [3, 5, 6, 2, 1, 0] rfl h
        · replace h := h.2 c13
          refine j_iconst o (v := (-1)) dX11_office_39 rfl ?_
          rw [hE]
          exact j_iret o dX11_office_40 ⟨_, rfl, rfl, rfl, rfl, h⟩

abbrev rm_X11_chart : Room := { frames := 3, cells := 0, slots := 0, locals := 79 }
def w_X11_chart (P : jP) (a1 : Int32) (a2 : Int32) (a3 : Int32) (M : jM) (Q : Int32 → jM → Prop) : Prop :=
  w_X11_lawAt P a1 M (fun r1 =>
  (r1 = 0 → (
   Q (-1) M
  )) ∧ (r1 ≠ 0 → (
   (a3 < 0 → (
    Q (-1) M
   )) ∧ (¬ a3 < 0 → (
    (1 < a3 → (
     Q (-1) M
    )) ∧ (¬ 1 < a3 → (
     w_X1_keepOrder P a2 M (fun r7 M8 =>
     (¬ r7 = 0 → (
      ∀ R50 : Int32 → Prop, (∀ (x11 : Int32), (
       w_X1_boxesInOrder P r1 x11 M8 (fun r12 M13 =>
       Q r12 M13)
      ) → R50 x11) →
      (¬ a3 = 1 → (
       R50 0
      )) ∧ (a3 = 1 → (
       R50 1
      ))
     )) ∧ (r7 = 0 → (
      Q (-1) M8
     )))
    ))
   ))
  )))
set_option maxRecDepth 20000 in
theorem c_X11_chart (l : Launch) (P : jP) (a1 : Int32) (a2 : Int32) (a3 : Int32) (M : jM) (N : jN) (Q : Int32 → jM → Prop) (h : w_X11_chart P a1 a2 a3 M Q) : jC l yX11_chart cX11_chart 5 (some .int) rm_X11_chart LC [.ref (P.1 1), .int a1, .int a2, .int a3] P M N (jqi P (fun r M' N' => N = N' ∧ Q r M' )) := by
  refine jC_of (by decide +kernel) [(0, .ref (P.1 1)), (1, .int a1), (2, .int a2), (3, .int a3)] (Nat.le_of_ble_eq_true rfl) rfl (fun X o => ?_)
  obtain ⟨E, hE⟩ : ∃ E, E = jE X rm_X11_chart (jqi P (fun r M' N' => N = N' ∧ Q r M' )) := ⟨_, rfl⟩
  rw [← hE]
  unfold w_X11_chart at h
  refine j_aload_n o dX11_chart_0 rfl ?_
  refine j_iload_n o dX11_chart_1 rfl ?_
  refine j_callVr (g := 1) (ci := 11) o (c_X11_lawAt l P a1 M N _ h) dX11_chart_2 jc_X11_191 jn_X11_lawAt rfl rfl rfl (fun _ => rfl) rfl rfl (fun r1 Mz2 Nz3 h => ?_)
  obtain ⟨rfl, rfl, h⟩ := h
  refine j_qstore o [(4, jrf P r1), (0, .ref (P.1 1)), (1, .int a1), (2, .int a2), (3, .int a3)] dX11_chart_5 (by decide) rfl ?_
  refine j_qload o (g := r1) rfl dX11_chart_7 ?_
  refine j_null2 o (tgt := 32) dX11_chart_9 (by decide) (fun c4 => ?_) (fun c4 => ?_)
  · replace h := h.1 c4
    refine j_iconst o (v := (-1)) dX11_chart_32 rfl ?_
    rw [hE]
    exact j_iret o dX11_chart_33 ⟨_, rfl, rfl, rfl, h⟩
  · replace h := h.2 c4
    try rw [jrf_n P c4]
    refine j_iload_n o dX11_chart_12 rfl ?_
    refine j_if_lt o (tgt := 32) dX11_chart_13 (by decide) (fun c5 => ?_) (fun c5 => ?_)
    · replace h := h.1 c5
      refine j_iconst o (v := (-1)) dX11_chart_32 rfl ?_
      rw [hE]
      exact j_iret o dX11_chart_33 ⟨_, rfl, rfl, rfl, h⟩
    · replace h := h.2 c5
      refine j_iload_n o dX11_chart_16 rfl ?_
      refine j_iconst o (v := 1) dX11_chart_17 rfl ?_
      refine j_icmp_gt o (tgt := 32) dX11_chart_18 (by decide) (fun c6 => ?_) (fun c6 => ?_)
      · replace h := h.1 c6
        refine j_iconst o (v := (-1)) dX11_chart_32 rfl ?_
        rw [hE]
        exact j_iret o dX11_chart_33 ⟨_, rfl, rfl, rfl, h⟩
      · replace h := h.2 c6
        refine j_aload_n o dX11_chart_21 rfl ?_
        refine j_getf o (g := 1) (slot := 3) (ci := 11) (v := .ref (P.1 5)) rfl jin_X11 (by decide) rfl jf_X11_48 (fun _ => rfl) rfl dX11_chart_22 ?_
        refine j_iload_n o dX11_chart_25 rfl ?_
        refine j_callVi (g := 5) (ci := 1) o (c_X1_keepOrder l P a2 M N _ h) dX11_chart_26 jc_X11_370 jn_X1_keepOrder rfl rfl rfl (fun _ => rfl) rfl rfl (fun r7 M8 Nz9 h => ?_)
        obtain ⟨rfl, h⟩ := h
        refine j_if_ne o (tgt := 34) dX11_chart_29 (by decide) (fun c10 => ?_) (fun c10 => ?_)
        · replace h := h.1 c10
          refine j_aload_n o dX11_chart_34 rfl ?_
          refine j_getf o (g := 1) (slot := 3) (ci := 11) (v := .ref (P.1 5)) rfl jin_X11 (by decide) rfl jf_X11_48 (fun _ => rfl) rfl dX11_chart_35 ?_
          refine j_aload o dX11_chart_38 rfl ?_
          refine j_iload_n o dX11_chart_40 rfl ?_
          refine j_iconst o (v := 1) dX11_chart_41 rfl ?_
          replace h := h (fun (x11 : Int32) => J X P M8 N 0 0 E 5 50 [] [.int x11, .ref (P.1 r1), .ref (P.1 5)]) (by
            intro x11 h
            refine j_callVi (g := 5) (ci := 1) o (c_X1_boxesInOrder l P r1 x11 M8 N _ h) dX11_chart_50 jc_X11_373 jn_X1_boxesInOrder rfl rfl rfl (fun _ => rfl) rfl rfl (fun r12 M13 Nz14 h => ?_)
            obtain ⟨rfl, h⟩ := h
            rw [hE]
            exact j_iret o dX11_chart_53 ⟨_, rfl, rfl, rfl, h⟩)
          refine j_icmp_ne o (tgt := 49) dX11_chart_42 (by decide) (fun c15 => ?_) (fun c15 => ?_)
          · replace h := h.1 c15
            refine j_iconst o (v := 0) dX11_chart_49 rfl ?_
            exact j_pick [] rfl h
          · replace h := h.2 c15
            refine j_iconst o (v := 1) dX11_chart_45 rfl ?_
            refine j_goto o (tgt := 50) dX11_chart_46 (by decide) ?_
            exact j_pick [] rfl h
        · replace h := h.2 c10
          refine j_iconst o (v := (-1)) dX11_chart_32 rfl ?_
          rw [hE]
          exact j_iret o dX11_chart_33 ⟨_, rfl, rfl, rfl, h⟩

abbrev rm_X11_least : Room := { frames := 4, cells := 0, slots := 0, locals := 102 }
def w_X11_least (P : jP) (a1 : Int32) (a2 : Int32) (M : jM) (Q : Int32 → jM → Prop) : Prop :=
  w_X11_lawAt P a1 M (fun r1 =>
  (r1 = 0 → (
   Q (-1) M
  )) ∧ (r1 ≠ 0 → (
   (a2 < 0 → (
    Q (-1) M
   )) ∧ (¬ a2 < 0 → (
    (a2 ≤ 1 → (
     w_X1_findLeast P r1 M (fun M7 =>
     (¬ a2 = 0 → (
      cLw P r1 = true ∧
      Q (M7 r1 6) M7
     )) ∧ (a2 = 0 → (
      cLw P r1 = true ∧
      Q (M7 r1 5) M7
     )))
    )) ∧ (¬ a2 ≤ 1 → (
     Q (-1) M
    ))
   ))
  )))
set_option maxRecDepth 20000 in
theorem c_X11_least (l : Launch) (P : jP) (a1 : Int32) (a2 : Int32) (M : jM) (N : jN) (Q : Int32 → jM → Prop) (h : w_X11_least P a1 a2 M Q) : jC l yX11_least cX11_least 4 (some .int) rm_X11_least LC [.ref (P.1 1), .int a1, .int a2] P M N (jqi P (fun r M' N' => N = N' ∧ Q r M' )) := by
  refine jC_of (by decide +kernel) [(0, .ref (P.1 1)), (1, .int a1), (2, .int a2)] (Nat.le_of_ble_eq_true rfl) rfl (fun X o => ?_)
  obtain ⟨E, hE⟩ : ∃ E, E = jE X rm_X11_least (jqi P (fun r M' N' => N = N' ∧ Q r M' )) := ⟨_, rfl⟩
  rw [← hE]
  unfold w_X11_least at h
  refine j_aload_n o dX11_least_0 rfl ?_
  refine j_iload_n o dX11_least_1 rfl ?_
  refine j_callVr (g := 1) (ci := 11) o (c_X11_lawAt l P a1 M N _ h) dX11_least_2 jc_X11_191 jn_X11_lawAt rfl rfl rfl (fun _ => rfl) rfl rfl (fun r1 Mz2 Nz3 h => ?_)
  obtain ⟨rfl, rfl, h⟩ := h
  refine j_qstore_n o [(3, jrf P r1), (0, .ref (P.1 1)), (1, .int a1), (2, .int a2)] dX11_least_5 (by decide) rfl ?_
  refine j_qload_n o (g := r1) rfl dX11_least_6 ?_
  refine j_null2 o (tgt := 19) dX11_least_7 (by decide) (fun c4 => ?_) (fun c4 => ?_)
  · replace h := h.1 c4
    refine j_iconst o (v := (-1)) dX11_least_19 rfl ?_
    rw [hE]
    exact j_iret o dX11_least_20 ⟨_, rfl, rfl, rfl, h⟩
  · replace h := h.2 c4
    try rw [jrf_n P c4]
    refine j_iload_n o dX11_least_10 rfl ?_
    refine j_if_lt o (tgt := 19) dX11_least_11 (by decide) (fun c5 => ?_) (fun c5 => ?_)
    · replace h := h.1 c5
      refine j_iconst o (v := (-1)) dX11_least_19 rfl ?_
      rw [hE]
      exact j_iret o dX11_least_20 ⟨_, rfl, rfl, rfl, h⟩
    · replace h := h.2 c5
      refine j_iload_n o dX11_least_14 rfl ?_
      refine j_iconst o (v := 1) dX11_least_15 rfl ?_
      refine j_icmp_le o (tgt := 21) dX11_least_16 (by decide) (fun c6 => ?_) (fun c6 => ?_)
      · replace h := h.1 c6
        refine j_aload_n o dX11_least_21 rfl ?_
        refine j_getf o (g := 1) (slot := 3) (ci := 11) (v := .ref (P.1 5)) rfl jin_X11 (by decide) rfl jf_X11_48 (fun _ => rfl) rfl dX11_least_22 ?_
        refine j_aload_n o dX11_least_25 rfl ?_
        refine j_callVv (g := 5) (ci := 1) o (c_X1_findLeast l P r1 M N _ h) dX11_least_26 jc_X11_377 jn_X1_findLeast rfl rfl rfl (fun _ => rfl) rfl rfl (fun M7 Nz8 h => ?_)
        obtain ⟨rfl, h⟩ := h
        refine j_iload_n o dX11_least_29 rfl ?_
        refine j_if_ne o (tgt := 40) dX11_least_30 (by decide) (fun c9 => ?_) (fun c9 => ?_)
        · replace h := h.1 c9
          refine j_aload_n o dX11_least_40 rfl ?_
          obtain ⟨hb10, h⟩ := h
          refine j_getf o (g := r1) (slot := 6) (ci := 4) (v := .int (M7 r1 6)) rfl jin_X4 (by decide) rfl jf_X11_383 (fun tA => LC_lw hb10 tA _ _) rfl dX11_least_41 ?_
          rw [hE]
          exact j_iret o dX11_least_44 ⟨_, rfl, rfl, rfl, h⟩
        · replace h := h.2 c9
          refine j_aload_n o dX11_least_33 rfl ?_
          obtain ⟨hb11, h⟩ := h
          refine j_getf o (g := r1) (slot := 5) (ci := 4) (v := .int (M7 r1 5)) rfl jin_X4 (by decide) rfl jf_X11_380 (fun tA => LC_lw hb11 tA _ _) rfl dX11_least_34 ?_
          refine j_goto o (tgt := 44) dX11_least_37 (by decide) ?_
          rw [hE]
          exact j_iret o dX11_least_44 ⟨_, rfl, rfl, rfl, h⟩
      · replace h := h.2 c6
        refine j_iconst o (v := (-1)) dX11_least_19 rfl ?_
        rw [hE]
        exact j_iret o dX11_least_20 ⟨_, rfl, rfl, rfl, h⟩

abbrev rm_X11_straight : Room := { frames := 2, cells := 0, slots := 0, locals := 48 }
def w_X11_straight (P : jP) (a1 : Int32) (a2 : Int32) (a3 : Int32) (M : jM) (Q : Int32 → jM → Prop) : Prop :=
  w_X11_lawAt P a1 M (fun r1 =>
  (r1 = 0 → (
   Q (-1) M
  )) ∧ (r1 ≠ 0 → (
   ∀ R28 : Prop, ((
    w_X1_keepOrder P a2 M (fun r5 M6 =>
    (¬ r5 = 0 → (
     (a3 = (-1) → (
      ∀ R66 : Int32 → Int32 → Prop, (∀ (x10 : Int32) (x11 : Int32), (
       ((M6 2 2) ≤ x11 → (
        Q x10 M6
       )) ∧ (¬ (M6 2 2) ≤ x11 → (
        w_X1_askedInOrder P r1 x11 M6 (fun r13 =>
        w_X9_minutesOf P r13 M6 (fun r16 =>
        R66 (if x10 < r16 then r16 else x10) (x11 + 1)))
       ))
      ) → R66 x10 x11) →
      R66 0 0
     )) ∧ (¬ a3 = (-1) → (
      w_X1_askedInOrder P r1 a3 M6 (fun r19 =>
      w_J6_bitCount_0f7a4 P r19 (fun r22 =>
      Q r22 M6))
     ))
    )) ∧ (r5 = 0 → (
     Q (-1) M6
    )))
   ) → R28) →
   (a3 = (-1) → (
    R28
   )) ∧ (¬ a3 = (-1) → (
    w_X3_isCase P a3 M (fun r26 =>
    (r26 = 0 → (
     Q (-1) M
    )) ∧ (¬ r26 = 0 → (
     R28
    )))
   ))
  )))
set_option maxRecDepth 20000 in
theorem c_X11_straight (l : Launch) (P : jP) (a1 : Int32) (a2 : Int32) (a3 : Int32) (M : jM) (N : jN) (Q : Int32 → jM → Prop) (h : w_X11_straight P a1 a2 a3 M Q) : jC l yX11_straight cX11_straight 7 (some .int) rm_X11_straight LC [.ref (P.1 1), .int a1, .int a2, .int a3] P M N (jqi P (fun r M' N' => N = N' ∧ Q r M' )) := by
  refine jC_of (by decide +kernel) [(0, .ref (P.1 1)), (1, .int a1), (2, .int a2), (3, .int a3)] (Nat.le_of_ble_eq_true rfl) rfl (fun X o => ?_)
  obtain ⟨E, hE⟩ : ∃ E, E = jE X rm_X11_straight (jqi P (fun r M' N' => N = N' ∧ Q r M' )) := ⟨_, rfl⟩
  rw [← hE]
  unfold w_X11_straight at h
  refine j_aload_n o dX11_straight_0 rfl ?_
  refine j_iload_n o dX11_straight_1 rfl ?_
  refine j_callVr (g := 1) (ci := 11) o (c_X11_lawAt l P a1 M N _ h) dX11_straight_2 jc_X11_191 jn_X11_lawAt rfl rfl rfl (fun _ => rfl) rfl rfl (fun r1 Mz2 Nz3 h => ?_)
  obtain ⟨rfl, rfl, h⟩ := h
  refine j_qstore o [(4, jrf P r1), (0, .ref (P.1 1)), (1, .int a1), (2, .int a2), (3, .int a3)] dX11_straight_5 (by decide) rfl ?_
  refine j_qload o (g := r1) rfl dX11_straight_7 ?_
  refine j_null2 o (tgt := 39) dX11_straight_9 (by decide) (fun c4 => ?_) (fun c4 => ?_)
  · replace h := h.1 c4
    refine j_iconst o (v := (-1)) dX11_straight_39 rfl ?_
    rw [hE]
    exact j_iret o dX11_straight_40 ⟨_, rfl, rfl, rfl, h⟩
  · replace h := h.2 c4
    try rw [jrf_n P c4]
    refine j_iload_n o dX11_straight_12 rfl ?_
    refine j_iconst o (v := (-1)) dX11_straight_13 rfl ?_
    replace h := h (J X P M N 0 0 E 7 28 [(0, .ref (P.1 1)), (2, .int a2), (3, .int a3), (4, .ref (P.1 r1))] []) (by
      intro h
      refine j_aload_n o dX11_straight_28 rfl ?_
      refine j_getf o (g := 1) (slot := 3) (ci := 11) (v := .ref (P.1 5)) rfl jin_X11 (by decide) rfl jf_X11_48 (fun _ => rfl) rfl dX11_straight_29 ?_
      refine j_iload_n o dX11_straight_32 rfl ?_
      refine j_callVi (g := 5) (ci := 1) o (c_X1_keepOrder l P a2 M N _ h) dX11_straight_33 jc_X11_370 jn_X1_keepOrder rfl rfl rfl (fun _ => rfl) rfl rfl (fun r5 M6 Nz7 h => ?_)
      obtain ⟨rfl, h⟩ := h
      refine j_if_ne o (tgt := 41) dX11_straight_36 (by decide) (fun c8 => ?_) (fun c8 => ?_)
      · replace h := h.1 c8
        refine j_iload_n o dX11_straight_41 rfl ?_
        refine j_iconst o (v := (-1)) dX11_straight_42 rfl ?_
        refine j_icmp_eq o (tgt := 60) dX11_straight_43 (by decide) (fun c9 => ?_) (fun c9 => ?_)
        · replace h := h.1 c9
          refine j_iconst o (v := 0) dX11_straight_60 rfl ?_
          refine j_istore o [(5, .int 0), (0, .ref (P.1 1)), (2, .int a2), (3, .int a3), (4, .ref (P.1 r1))] dX11_straight_61 (by decide) rfl ?_
          refine j_iconst o (v := 0) dX11_straight_63 rfl ?_
          refine j_istore o [(6, .int 0), (5, .int 0), (0, .ref (P.1 1)), (2, .int a2), (3, .int a3), (4, .ref (P.1 r1))] dX11_straight_64 (by decide) rfl ?_
          replace h := h (fun (x10 : Int32) (x11 : Int32) => J X P M6 N 0 0 E 7 66 [(0, .ref (P.1 1)), (4, .ref (P.1 r1)), (5, .int x10), (6, .int x11)] []) (by
            intro x10 x11 h
            refine j_iload o dX11_straight_66 rfl ?_
            refine j_aload_n o dX11_straight_68 rfl ?_
            refine j_getf o (g := 1) (slot := 0) (ci := 11) (v := .ref (P.1 2)) rfl jin_X11 (by decide) rfl jf_X11_23 (fun _ => rfl) rfl dX11_straight_69 ?_
            refine j_getf o (g := 2) (slot := 2) (ci := 3) (v := .int (M6 2 2)) rfl jin_X3 (by decide) rfl jf_X11_77 (fun _ => rfl) rfl dX11_straight_72 ?_
            refine j_icmp_ge o (tgt := 109) dX11_straight_75 (by decide) (fun c12 => ?_) (fun c12 => ?_)
            · replace h := h.1 c12
              refine j_iload o dX11_straight_109 rfl ?_
              rw [hE]
              exact j_iret o dX11_straight_111 ⟨_, rfl, rfl, rfl, h⟩
            · replace h := h.2 c12
              refine j_iload o dX11_straight_78 rfl ?_
              refine j_aload_n o dX11_straight_80 rfl ?_
              refine j_getf o (g := 1) (slot := 4) (ci := 11) (v := .ref (P.1 6)) rfl jin_X11 (by decide) rfl jf_X11_55 (fun _ => rfl) rfl dX11_straight_81 ?_
              refine j_aload_n o dX11_straight_84 rfl ?_
              refine j_getf o (g := 1) (slot := 3) (ci := 11) (v := .ref (P.1 5)) rfl jin_X11 (by decide) rfl jf_X11_48 (fun _ => rfl) rfl dX11_straight_85 ?_
              refine j_aload o dX11_straight_88 rfl ?_
              refine j_iload o dX11_straight_90 rfl ?_
              refine j_callVi (g := 5) (ci := 1) o (c_X1_askedInOrder l P r1 x11 M6 N _ h) dX11_straight_92 jc_X11_386 jn_X1_askedInOrder rfl rfl rfl (fun _ => rfl) rfl rfl (fun r13 Mz14 Nz15 h => ?_)
              obtain ⟨rfl, rfl, h⟩ := h
              refine j_callVi (g := 6) (ci := 9) o (c_X9_minutesOf l P r13 M6 N _ h) dX11_straight_95 jc_X11_394 jn_X9_minutesOf rfl rfl rfl (fun _ => rfl) rfl rfl (fun r16 Mz17 Nz18 h => ?_)
              obtain ⟨rfl, rfl, h⟩ := h
              refine j_mmax o dX11_straight_98 jc_X11_15 rfl ?_
              refine j_istore o [(5, .int (if x10 < r16 then r16 else x10)), (0, .ref (P.1 1)), (4, .ref (P.1 r1)), (6, .int x11)] dX11_straight_101 (by decide) rfl ?_
              refine j_iinc o (v := x11 + 1) [(6, .int (x11 + 1)), (5, .int (if x10 < r16 then r16 else x10)), (0, .ref (P.1 1)), (4, .ref (P.1 r1))] dX11_straight_103 rfl rfl (by decide) rfl ?_
              refine j_goto o (tgt := 66) dX11_straight_106 (by decide) ?_
              exact j_pick [2, 3, 1, 0] rfl h)
          exact j_pick [2, 5, 1, 0] rfl h
        · replace h := h.2 c9
          refine j_aload_n o dX11_straight_46 rfl ?_
          refine j_getf o (g := 1) (slot := 3) (ci := 11) (v := .ref (P.1 5)) rfl jin_X11 (by decide) rfl jf_X11_48 (fun _ => rfl) rfl dX11_straight_47 ?_
          refine j_aload o dX11_straight_50 rfl ?_
          refine j_iload_n o dX11_straight_52 rfl ?_
          refine j_callVi (g := 5) (ci := 1) o (c_X1_askedInOrder l P r1 a3 M6 N _ h) dX11_straight_53 jc_X11_386 jn_X1_askedInOrder rfl rfl rfl (fun _ => rfl) rfl rfl (fun r19 Mz20 Nz21 h => ?_)
          obtain ⟨rfl, rfl, h⟩ := h
          refine j_callSi o (c_J6_bitCount_0f7a4 l P r19 M6 N _ h) dX11_straight_56 jc_X11_389 jn_J6_bitCount_0f7a4 rfl rfl rfl rfl (fun r22 Mz23 Nz24 h => ?_)
          obtain ⟨rfl, rfl, h⟩ := h
          rw [hE]
          exact j_iret o dX11_straight_59 ⟨_, rfl, rfl, rfl, h⟩
      · replace h := h.2 c8
        refine j_iconst o (v := (-1)) dX11_straight_39 rfl ?_
        rw [hE]
        exact j_iret o dX11_straight_40 ⟨_, rfl, rfl, rfl, h⟩)
    refine j_icmp_eq o (tgt := 28) dX11_straight_14 (by decide) (fun c25 => ?_) (fun c25 => ?_)
    · replace h := h.1 c25
      exact j_pick [1, 3, 4, 0] rfl h
    · replace h := h.2 c25
      refine j_aload_n o dX11_straight_17 rfl ?_
      refine j_getf o (g := 1) (slot := 0) (ci := 11) (v := .ref (P.1 2)) rfl jin_X11 (by decide) rfl jf_X11_23 (fun _ => rfl) rfl dX11_straight_18 ?_
      refine j_iload_n o dX11_straight_21 rfl ?_
      refine j_callVi (g := 2) (ci := 3) o (c_X3_isCase l P a3 M N _ h) dX11_straight_22 jc_X11_195 jn_X3_isCase rfl rfl rfl (fun _ => rfl) rfl rfl (fun r26 Mz27 Nz28 h => ?_)
      obtain ⟨rfl, rfl, h⟩ := h
      refine j_if_eq o (tgt := 39) dX11_straight_25 (by decide) (fun c29 => ?_) (fun c29 => ?_)
      · replace h := h.1 c29
        refine j_iconst o (v := (-1)) dX11_straight_39 rfl ?_
        rw [hE]
        exact j_iret o dX11_straight_40 ⟨_, rfl, rfl, rfl, h⟩
      · replace h := h.2 c29
        exact j_pick [1, 3, 4, 0] rfl h

abbrev rm_X11_ruling : Room := { frames := 1, cells := 0, slots := 0, locals := 22 }
def w_X11_ruling (P : jP) (a1 : Int32) (a2 : Int32) (M : jM) (Q : Int32 → jM → Prop) : Prop :=
  w_X3_isCase P a1 M (fun r1 =>
  (r1 = 0 → (
   Q (-1) M
  )) ∧ (¬ r1 = 0 → (
   w_X11_isOutcome P a2 (fun r5 =>
   (r5 = 0 → (
    Q (-1) M
   )) ∧ (¬ r5 = 0 → (
    w_X8_added P a1 a2 M (fun r9 M10 =>
    Q r9 M10)
   )))
  )))
set_option maxRecDepth 20000 in
theorem c_X11_ruling (l : Launch) (P : jP) (a1 : Int32) (a2 : Int32) (M : jM) (N : jN) (Q : Int32 → jM → Prop) (h : w_X11_ruling P a1 a2 M Q) : jC l yX11_ruling cX11_ruling 3 (some .int) rm_X11_ruling LC [.ref (P.1 1), .int a1, .int a2] P M N (jqi P (fun r M' N' => N = N' ∧ Q r M' )) := by
  refine jC_of (by decide +kernel) [(0, .ref (P.1 1)), (1, .int a1), (2, .int a2)] (Nat.le_of_ble_eq_true rfl) rfl (fun X o => ?_)
  obtain ⟨E, hE⟩ : ∃ E, E = jE X rm_X11_ruling (jqi P (fun r M' N' => N = N' ∧ Q r M' )) := ⟨_, rfl⟩
  rw [← hE]
  unfold w_X11_ruling at h
  refine j_aload_n o dX11_ruling_0 rfl ?_
  refine j_getf o (g := 1) (slot := 0) (ci := 11) (v := .ref (P.1 2)) rfl jin_X11 (by decide) rfl jf_X11_23 (fun _ => rfl) rfl dX11_ruling_1 ?_
  refine j_iload_n o dX11_ruling_4 rfl ?_
  refine j_callVi (g := 2) (ci := 3) o (c_X3_isCase l P a1 M N _ h) dX11_ruling_5 jc_X11_195 jn_X3_isCase rfl rfl rfl (fun _ => rfl) rfl rfl (fun r1 Mz2 Nz3 h => ?_)
  obtain ⟨rfl, rfl, h⟩ := h
  refine j_if_eq o (tgt := 30) dX11_ruling_8 (by decide) (fun c4 => ?_) (fun c4 => ?_)
  · replace h := h.1 c4
    refine j_iconst o (v := (-1)) dX11_ruling_30 rfl ?_
    rw [hE]
    exact j_iret o dX11_ruling_31 ⟨_, rfl, rfl, rfl, h⟩
  · replace h := h.2 c4
    refine j_iload_n o dX11_ruling_11 rfl ?_
    refine j_callSi o (c_X11_isOutcome l P a2 M N _ h) dX11_ruling_12 jc_X11_282 jn_X11_isOutcome rfl rfl rfl rfl (fun r5 Mz6 Nz7 h => ?_)
    obtain ⟨rfl, rfl, h⟩ := h
    refine j_if_eq o (tgt := 30) dX11_ruling_15 (by decide) (fun c8 => ?_) (fun c8 => ?_)
    · replace h := h.1 c8
      refine j_iconst o (v := (-1)) dX11_ruling_30 rfl ?_
      rw [hE]
      exact j_iret o dX11_ruling_31 ⟨_, rfl, rfl, rfl, h⟩
    · replace h := h.2 c8
      refine j_aload_n o dX11_ruling_18 rfl ?_
      refine j_getf o (g := 1) (slot := 8) (ci := 11) (v := .ref (P.1 10)) rfl jin_X11 (by decide) rfl jf_X11_89 (fun _ => rfl) rfl dX11_ruling_19 ?_
      refine j_iload_n o dX11_ruling_22 rfl ?_
      refine j_iload_n o dX11_ruling_23 rfl ?_
      refine j_callVi (g := 10) (ci := 8) o (c_X8_added l P a1 a2 M N _ h) dX11_ruling_24 jc_X11_397 jn_X8_added rfl rfl rfl (fun _ => rfl) rfl rfl (fun r9 M10 Nz11 h => ?_)
      obtain ⟨rfl, h⟩ := h
      refine j_goto o (tgt := 31) dX11_ruling_27 (by decide) ?_
      rw [hE]
      exact j_iret o dX11_ruling_31 ⟨_, rfl, rfl, rfl, h⟩

abbrev rm_X11_against : Room := { frames := 4, cells := 0, slots := 0, locals := 86 }
def w_X11_against (P : jP) (a1 : Int32) (M : jM) (Q : Int32 → Prop) : Prop :=
  w_X11_lawAt P a1 M (fun r1 =>
  (r1 ≠ 0 → (
   w_X8_againstWithout P r1 0 M (fun r5 =>
   Q r5)
  )) ∧ (r1 = 0 → (
   Q (-1)
  )))
set_option maxRecDepth 20000 in
theorem c_X11_against (l : Launch) (P : jP) (a1 : Int32) (M : jM) (N : jN) (Q : Int32 → Prop) (h : w_X11_against P a1 M Q) : jC l yX11_against cX11_against 3 (some .int) rm_X11_against LC [.ref (P.1 1), .int a1] P M N (jqi P (fun r M' N' => M = M' ∧ N = N' ∧ Q r )) := by
  refine jC_of (by decide +kernel) [(0, .ref (P.1 1)), (1, .int a1)] (Nat.le_of_ble_eq_true rfl) rfl (fun X o => ?_)
  obtain ⟨E, hE⟩ : ∃ E, E = jE X rm_X11_against (jqi P (fun r M' N' => M = M' ∧ N = N' ∧ Q r )) := ⟨_, rfl⟩
  rw [← hE]
  unfold w_X11_against at h
  refine j_aload_n o dX11_against_0 rfl ?_
  refine j_iload_n o dX11_against_1 rfl ?_
  refine j_callVr (g := 1) (ci := 11) o (c_X11_lawAt l P a1 M N _ h) dX11_against_2 jc_X11_191 jn_X11_lawAt rfl rfl rfl (fun _ => rfl) rfl rfl (fun r1 Mz2 Nz3 h => ?_)
  obtain ⟨rfl, rfl, h⟩ := h
  refine j_qstore_n o [(2, jrf P r1), (0, .ref (P.1 1)), (1, .int a1)] dX11_against_5 (by decide) rfl ?_
  refine j_qload_n o (g := r1) rfl dX11_against_6 ?_
  refine j_nonnull2 o (tgt := 14) dX11_against_7 (by decide) (fun c4 => ?_) (fun c4 => ?_)
  · replace h := h.1 c4
    try rw [jrf_n P c4]
    refine j_aload_n o dX11_against_14 rfl ?_
    refine j_getf o (g := 1) (slot := 8) (ci := 11) (v := .ref (P.1 10)) rfl jin_X11 (by decide) rfl jf_X11_89 (fun _ => rfl) rfl dX11_against_15 ?_
    refine j_aload_n o dX11_against_18 rfl ?_
    refine j_iconst o (v := 0) dX11_against_19 rfl ?_
    refine j_callVi (g := 10) (ci := 8) o (c_X8_againstWithout l P r1 0 M N _ h) dX11_against_20 jc_X11_399 jn_X8_againstWithout rfl rfl rfl (fun _ => rfl) rfl rfl (fun r5 Mz6 Nz7 h => ?_)
    obtain ⟨rfl, rfl, h⟩ := h
    rw [hE]
    exact j_iret o dX11_against_23 ⟨_, rfl, rfl, rfl, rfl, h⟩
  · replace h := h.2 c4
    refine j_iconst o (v := (-1)) dX11_against_10 rfl ?_
    refine j_goto o (tgt := 23) dX11_against_11 (by decide) ?_
    rw [hE]
    exact j_iret o dX11_against_23 ⟨_, rfl, rfl, rfl, rfl, h⟩

abbrev rm_X11_cure : Room := { frames := 4, cells := 0, slots := 0, locals := 86 }
def w_X11_cure (P : jP) (a1 : Int32) (M : jM) (Q : Int32 → Prop) : Prop :=
  w_X11_lawAt P a1 M (fun r1 =>
  (r1 ≠ 0 → (
   ∀ R17 : Int32 → Int32 → Prop, (∀ (x5 : Int32) (x6 : Int32), (
    cLw P r1 = true ∧
    (((1 : Int32) <<< ((M r1 0) &&& 31)) ≤ x6 → (
     Q x5
    )) ∧ (¬ ((1 : Int32) <<< ((M r1 0) &&& 31)) ≤ x6 → (
     w_X11_isAhead P x6 x5 (fun r9 =>
     ∀ R53 : Int32 → Prop, (∀ (x12 : Int32), (
      R17 x12 (x6 + 1)
     ) → R53 x12) →
     (r9 = 0 → (
      R53 x5
     )) ∧ (¬ r9 = 0 → (
      w_X8_againstWithout P r1 x6 M (fun r14 =>
      (¬ r14 = 0 → (
       R53 x5
      )) ∧ (r14 = 0 → (
       R53 x6
      )))
     )))
    ))
   ) → R17 x5 x6) →
   R17 (-1) 0
  )) ∧ (r1 = 0 → (
   Q (-1)
  )))
set_option maxRecDepth 20000 in
theorem c_X11_cure (l : Launch) (P : jP) (a1 : Int32) (M : jM) (N : jN) (Q : Int32 → Prop) (h : w_X11_cure P a1 M Q) : jC l yX11_cure cX11_cure 5 (some .int) rm_X11_cure LC [.ref (P.1 1), .int a1] P M N (jqi P (fun r M' N' => M = M' ∧ N = N' ∧ Q r )) := by
  refine jC_of (by decide +kernel) [(0, .ref (P.1 1)), (1, .int a1)] (Nat.le_of_ble_eq_true rfl) rfl (fun X o => ?_)
  obtain ⟨E, hE⟩ : ∃ E, E = jE X rm_X11_cure (jqi P (fun r M' N' => M = M' ∧ N = N' ∧ Q r )) := ⟨_, rfl⟩
  rw [← hE]
  unfold w_X11_cure at h
  refine j_aload_n o dX11_cure_0 rfl ?_
  refine j_iload_n o dX11_cure_1 rfl ?_
  refine j_callVr (g := 1) (ci := 11) o (c_X11_lawAt l P a1 M N _ h) dX11_cure_2 jc_X11_191 jn_X11_lawAt rfl rfl rfl (fun _ => rfl) rfl rfl (fun r1 Mz2 Nz3 h => ?_)
  obtain ⟨rfl, rfl, h⟩ := h
  refine j_qstore_n o [(2, jrf P r1), (0, .ref (P.1 1)), (1, .int a1)] dX11_cure_5 (by decide) rfl ?_
  refine j_qload_n o (g := r1) rfl dX11_cure_6 ?_
  refine j_nonnull2 o (tgt := 12) dX11_cure_7 (by decide) (fun c4 => ?_) (fun c4 => ?_)
  · replace h := h.1 c4
    try rw [jrf_n P c4]
    refine j_iconst o (v := (-1)) dX11_cure_12 rfl ?_
    refine j_istore_n o [(3, .int (-1)), (2, .ref (P.1 r1)), (0, .ref (P.1 1)), (1, .int a1)] dX11_cure_13 (by decide) rfl ?_
    refine j_iconst o (v := 0) dX11_cure_14 rfl ?_
    refine j_istore o [(4, .int 0), (3, .int (-1)), (2, .ref (P.1 r1)), (0, .ref (P.1 1)), (1, .int a1)] dX11_cure_15 (by decide) rfl ?_
    replace h := h (fun (x5 : Int32) (x6 : Int32) => J X P M N 0 0 E 5 17 [(0, .ref (P.1 1)), (2, .ref (P.1 r1)), (3, .int x5), (4, .int x6)] []) (by
      intro x5 x6 h
      refine j_iload o dX11_cure_17 rfl ?_
      refine j_iconst o (v := 1) dX11_cure_19 rfl ?_
      refine j_aload_n o dX11_cure_20 rfl ?_
      obtain ⟨hb7, h⟩ := h
      refine j_getf o (g := r1) (slot := 0) (ci := 4) (v := .int (M r1 0)) rfl jin_X4 (by decide) rfl jf_X11_361 (fun tA => LC_lw hb7 tA _ _) rfl dX11_cure_21 ?_
      refine j_ishl o dX11_cure_24 ?_
      refine j_icmp_ge o (tgt := 59) dX11_cure_25 (by decide) (fun c8 => ?_) (fun c8 => ?_)
      · replace h := h.1 c8
        refine j_iload_n o dX11_cure_59 rfl ?_
        rw [hE]
        exact j_iret o dX11_cure_60 ⟨_, rfl, rfl, rfl, rfl, h⟩
      · replace h := h.2 c8
        refine j_iload o dX11_cure_28 rfl ?_
        refine j_iload_n o dX11_cure_30 rfl ?_
        refine j_callSi o (c_X11_isAhead l P x6 x5 M N _ h) dX11_cure_31 jc_X11_227 jn_X11_isAhead rfl rfl rfl rfl (fun r9 Mz10 Nz11 h => ?_)
        obtain ⟨rfl, rfl, h⟩ := h
        replace h := h (fun (x12 : Int32) => J X P M N 0 0 E 5 53 [(0, .ref (P.1 1)), (2, .ref (P.1 r1)), (3, .int x12), (4, .int x6)] []) (by
          intro x12 h
          refine j_iinc o (v := x6 + 1) [(4, .int (x6 + 1)), (0, .ref (P.1 1)), (2, .ref (P.1 r1)), (3, .int x12)] dX11_cure_53 rfl rfl (by decide) rfl ?_
          refine j_goto o (tgt := 17) dX11_cure_56 (by decide) ?_
          exact j_pick [1, 2, 3, 0] rfl h)
        refine j_if_eq o (tgt := 53) dX11_cure_34 (by decide) (fun c13 => ?_) (fun c13 => ?_)
        · replace h := h.1 c13
          exact j_pick [0, 1, 2, 3] rfl h
        · replace h := h.2 c13
          refine j_aload_n o dX11_cure_37 rfl ?_
          refine j_getf o (g := 1) (slot := 8) (ci := 11) (v := .ref (P.1 10)) rfl jin_X11 (by decide) rfl jf_X11_89 (fun _ => rfl) rfl dX11_cure_38 ?_
          refine j_aload_n o dX11_cure_41 rfl ?_
          refine j_iload o dX11_cure_42 rfl ?_
          refine j_callVi (g := 10) (ci := 8) o (c_X8_againstWithout l P r1 x6 M N _ h) dX11_cure_44 jc_X11_399 jn_X8_againstWithout rfl rfl rfl (fun _ => rfl) rfl rfl (fun r14 Mz15 Nz16 h => ?_)
          obtain ⟨rfl, rfl, h⟩ := h
          refine j_if_ne o (tgt := 53) dX11_cure_47 (by decide) (fun c17 => ?_) (fun c17 => ?_)
          · replace h := h.1 c17
            exact j_pick [0, 1, 2, 3] rfl h
          · replace h := h.2 c17
            refine j_iload o dX11_cure_50 rfl ?_
            refine j_istore_n o [(3, .int x6), (0, .ref (P.1 1)), (2, .ref (P.1 r1)), (4, .int x6)] dX11_cure_52 (by decide) rfl ?_
            exact j_pick [1, 2, 0, 3] rfl h)
    exact j_pick [3, 2, 1, 0] rfl h
  · replace h := h.2 c4
    refine j_iconst o (v := (-1)) dX11_cure_10 rfl ?_
    rw [hE]
    exact j_iret o dX11_cure_11 ⟨_, rfl, rfl, rfl, rfl, h⟩

abbrev rm_X11_count : Room := { frames := 0, cells := 0, slots := 0, locals := 0 }
def w_X11_count (P : jP) (a1 : Int32) (M : jM) (Q : Int32 → Prop) : Prop :=
  (a1 = 0 → (
   Q (M 1 10)
  )) ∧
  (a1 = 1 → (
   Q (M 9 0)
  )) ∧
  (a1 = 2 → (
   Q (M 1 12)
  )) ∧
  (a1 = 3 → (
   Q (M 7 1)
  )) ∧
  (a1 = 4 → (
   Q (M 2 0)
  )) ∧
  (a1 = 5 → (
   Q (M 3 1)
  )) ∧
  (a1 = 6 → (
   Q (M 10 0)
  )) ∧
  (¬ a1 = 0 → ¬ a1 = 1 → ¬ a1 = 2 → ¬ a1 = 3 → ¬ a1 = 4 → ¬ a1 = 5 → ¬ a1 = 6 → (
   Q (-1)
  ))
set_option maxRecDepth 20000 in
theorem c_X11_count (l : Launch) (P : jP) (a1 : Int32) (M : jM) (N : jN) (Q : Int32 → Prop) (h : w_X11_count P a1 M Q) : jC l yX11_count cX11_count 2 (some .int) rm_X11_count LC [.ref (P.1 1), .int a1] P M N (jqi P (fun r M' N' => M = M' ∧ N = N' ∧ Q r )) := by
  refine jC_of (by decide +kernel) [(0, .ref (P.1 1)), (1, .int a1)] (Nat.le_of_ble_eq_true rfl) rfl (fun X o => ?_)
  obtain ⟨E, hE⟩ : ∃ E, E = jE X rm_X11_count (jqi P (fun r M' N' => M = M' ∧ N = N' ∧ Q r )) := ⟨_, rfl⟩
  rw [← hE]
  unfold w_X11_count at h
  refine j_iload_n o dX11_count_0 rfl ?_
  refine j_case o (off := 43) (v := 0) (tgt := 44) dX11_count_1 (by decide) (by decide) (fun c1 => ?_) (fun c1 => ?_)
  · replace h := h.1 c1
    refine j_aload_n o dX11_count_44 rfl ?_
    refine j_getf o (g := 1) (slot := 10) (ci := 11) (v := .int (M 1 10)) rfl jin_X11 (by decide) rfl jf_X11_136 (fun _ => rfl) rfl dX11_count_45 ?_
    rw [hE]
    exact j_iret o dX11_count_48 ⟨_, rfl, rfl, rfl, rfl, h⟩
  replace h := h.2
  refine j_case o (off := 48) (v := 1) (tgt := 49) dX11_count_1 (by decide) (by decide) (fun c2 => ?_) (fun c2 => ?_)
  · replace h := h.1 c2
    refine j_aload_n o dX11_count_49 rfl ?_
    refine j_getf o (g := 1) (slot := 7) (ci := 11) (v := .ref (P.1 9)) rfl jin_X11 (by decide) rfl jf_X11_82 (fun _ => rfl) rfl dX11_count_50 ?_
    refine j_getf o (g := 9) (slot := 0) (ci := 6) (v := .int (M 9 0)) rfl jin_X6 (by decide) rfl jf_X11_320 (fun _ => rfl) rfl dX11_count_53 ?_
    rw [hE]
    exact j_iret o dX11_count_56 ⟨_, rfl, rfl, rfl, rfl, h⟩
  replace h := h.2
  refine j_case o (off := 56) (v := 2) (tgt := 57) dX11_count_1 (by decide) (by decide) (fun c3 => ?_) (fun c3 => ?_)
  · replace h := h.1 c3
    refine j_aload_n o dX11_count_57 rfl ?_
    refine j_getf o (g := 1) (slot := 12) (ci := 11) (v := .int (M 1 12)) rfl jin_X11 (by decide) rfl jf_X11_184 (fun _ => rfl) rfl dX11_count_58 ?_
    rw [hE]
    exact j_iret o dX11_count_61 ⟨_, rfl, rfl, rfl, rfl, h⟩
  replace h := h.2
  refine j_case o (off := 61) (v := 3) (tgt := 62) dX11_count_1 (by decide) (by decide) (fun c4 => ?_) (fun c4 => ?_)
  · replace h := h.1 c4
    refine j_aload_n o dX11_count_62 rfl ?_
    refine j_getf o (g := 1) (slot := 5) (ci := 11) (v := .ref (P.1 7)) rfl jin_X11 (by decide) rfl jf_X11_62 (fun _ => rfl) rfl dX11_count_63 ?_
    refine j_getf o (g := 7) (slot := 1) (ci := 5) (v := .int (M 7 1)) rfl jin_X5 (by decide) rfl jf_X11_275 (fun _ => rfl) rfl dX11_count_66 ?_
    rw [hE]
    exact j_iret o dX11_count_69 ⟨_, rfl, rfl, rfl, rfl, h⟩
  replace h := h.2
  refine j_case o (off := 69) (v := 4) (tgt := 70) dX11_count_1 (by decide) (by decide) (fun c5 => ?_) (fun c5 => ?_)
  · replace h := h.1 c5
    refine j_aload_n o dX11_count_70 rfl ?_
    refine j_getf o (g := 1) (slot := 0) (ci := 11) (v := .ref (P.1 2)) rfl jin_X11 (by decide) rfl jf_X11_23 (fun _ => rfl) rfl dX11_count_71 ?_
    refine j_getf o (g := 2) (slot := 0) (ci := 3) (v := .int (M 2 0)) rfl jin_X3 (by decide) rfl jf_X11_224 (fun _ => rfl) rfl dX11_count_74 ?_
    rw [hE]
    exact j_iret o dX11_count_77 ⟨_, rfl, rfl, rfl, rfl, h⟩
  replace h := h.2
  refine j_case o (off := 77) (v := 5) (tgt := 78) dX11_count_1 (by decide) (by decide) (fun c6 => ?_) (fun c6 => ?_)
  · replace h := h.1 c6
    refine j_aload_n o dX11_count_78 rfl ?_
    refine j_getf o (g := 1) (slot := 1) (ci := 11) (v := .ref (P.1 3)) rfl jin_X11 (by decide) rfl jf_X11_30 (fun _ => rfl) rfl dX11_count_79 ?_
    refine j_getf o (g := 3) (slot := 1) (ci := 10) (v := .int (M 3 1)) rfl jin_X10 (by decide) rfl jf_X11_117 (fun _ => rfl) rfl dX11_count_82 ?_
    rw [hE]
    exact j_iret o dX11_count_85 ⟨_, rfl, rfl, rfl, rfl, h⟩
  replace h := h.2
  refine j_case o (off := 85) (v := 6) (tgt := 86) dX11_count_1 (by decide) (by decide) (fun c7 => ?_) (fun c7 => ?_)
  · replace h := h.1 c7
    refine j_aload_n o dX11_count_86 rfl ?_
    refine j_getf o (g := 1) (slot := 8) (ci := 11) (v := .ref (P.1 10)) rfl jin_X11 (by decide) rfl jf_X11_89 (fun _ => rfl) rfl dX11_count_87 ?_
    refine j_getf o (g := 10) (slot := 0) (ci := 8) (v := .int (M 10 0)) rfl jin_X8 (by decide) rfl jf_X11_402 (fun _ => rfl) rfl dX11_count_90 ?_
    rw [hE]
    exact j_iret o dX11_count_93 ⟨_, rfl, rfl, rfl, rfl, h⟩
  replace h := h.2
  replace h := h c1 c2 c3 c4 c5 c6 c7
  refine j_caseD o (tgt := 94) dX11_count_1 (sw_out_0_7 c1 c2 c3 c4 c5 c6 c7) (by decide) ?_
  refine j_iconst o (v := (-1)) dX11_count_94 rfl ?_
  rw [hE]
  exact j_iret o dX11_count_95 ⟨_, rfl, rfl, rfl, rfl, h⟩

abbrev rm_X12_thrown : Room := { frames := 0, cells := 0, slots := 0, locals := 0 }
def w_X12_thrown (P : jP)  (M : jM) (Q : Int32 → Prop) : Prop :=
  Q (M 1 0)
set_option maxRecDepth 20000 in
theorem c_X12_thrown (l : Launch) (P : jP)  (M : jM) (N : jN) (Q : Int32 → Prop) (h : w_X12_thrown P M Q) : jC l yX12_thrown cX12_thrown 1 (some .int) rm_X12_thrown LM [.ref (P.1 1)] P M N (jqi P (fun r M' N' => M = M' ∧ N = N' ∧ Q r )) := by
  refine jC_of (by decide +kernel) [(0, .ref (P.1 1))] (Nat.le_of_ble_eq_true rfl) rfl (fun X o => ?_)
  obtain ⟨E, hE⟩ : ∃ E, E = jE X rm_X12_thrown (jqi P (fun r M' N' => M = M' ∧ N = N' ∧ Q r )) := ⟨_, rfl⟩
  rw [← hE]
  unfold w_X12_thrown at h
  refine j_aload_n o dX12_thrown_0 rfl ?_
  refine j_getf o (g := 1) (slot := 0) (ci := 12) (v := .int (M 1 0)) rfl jin_X12 (by decide) rfl jf_X12_114 (fun _ => rfl) rfl dX12_thrown_1 ?_
  rw [hE]
  exact j_iret o dX12_thrown_4 ⟨_, rfl, rfl, rfl, rfl, h⟩

abbrev rm_X12_isIn : Room := { frames := 0, cells := 0, slots := 0, locals := 0 }
def w_X12_isIn (P : jP) (a1 : Int32) (a2 : Int32) (a3 : Int32) (Q : Int32 → Prop) : Prop :=
  (a1 < a2 → (
   Q 0
  )) ∧ (¬ a1 < a2 → (
   (a3 < a1 → (
    Q 0
   )) ∧ (¬ a3 < a1 → (
    Q 1
   ))
  ))
set_option maxRecDepth 20000 in
theorem c_X12_isIn (l : Launch) (P : jP) (a1 : Int32) (a2 : Int32) (a3 : Int32) (M : jM) (N : jN) (Q : Int32 → Prop) (h : w_X12_isIn P a1 a2 a3 Q) : jC l yX12_isIn cX12_isIn 3 (some .boolean) rm_X12_isIn LM [.int a1, .int a2, .int a3] P M N (jqi P (fun r M' N' => M = M' ∧ N = N' ∧ Q r )) := by
  refine jC_of (by decide +kernel) [(0, .int a1), (1, .int a2), (2, .int a3)] (Nat.le_of_ble_eq_true rfl) rfl (fun X o => ?_)
  obtain ⟨E, hE⟩ : ∃ E, E = jE X rm_X12_isIn (jqi P (fun r M' N' => M = M' ∧ N = N' ∧ Q r )) := ⟨_, rfl⟩
  rw [← hE]
  unfold w_X12_isIn at h
  refine j_iload_n o dX12_isIn_0 rfl ?_
  refine j_iload_n o dX12_isIn_1 rfl ?_
  refine j_icmp_lt o (tgt := 14) dX12_isIn_2 (by decide) (fun c1 => ?_) (fun c1 => ?_)
  · replace h := h.1 c1
    refine j_iconst o (v := 0) dX12_isIn_14 rfl ?_
    rw [hE]
    exact j_zret o rfl dX12_isIn_15 ⟨_, rfl, rfl, rfl, rfl, h⟩
  · replace h := h.2 c1
    refine j_iload_n o dX12_isIn_5 rfl ?_
    refine j_iload_n o dX12_isIn_6 rfl ?_
    refine j_icmp_gt o (tgt := 14) dX12_isIn_7 (by decide) (fun c2 => ?_) (fun c2 => ?_)
    · replace h := h.1 c2
      refine j_iconst o (v := 0) dX12_isIn_14 rfl ?_
      rw [hE]
      exact j_zret o rfl dX12_isIn_15 ⟨_, rfl, rfl, rfl, rfl, h⟩
    · replace h := h.2 c2
      refine j_iconst o (v := 1) dX12_isIn_10 rfl ?_
      refine j_goto o (tgt := 15) dX12_isIn_11 (by decide) ?_
      rw [hE]
      exact j_zret o rfl dX12_isIn_15 ⟨_, rfl, rfl, rfl, rfl, h⟩

abbrev rm_X12_has : Room := { frames := 0, cells := 0, slots := 0, locals := 0 }
def w_X12_has (P : jP) (a1 : Int32) (a2 : Int32) (Q : Int32 → Prop) : Prop :=
  (¬ ((a1 >>> (a2 &&& 31)) &&& 1) = 1 → (
   Q 0
  )) ∧ (((a1 >>> (a2 &&& 31)) &&& 1) = 1 → (
   Q 1
  ))
set_option maxRecDepth 20000 in
theorem c_X12_has (l : Launch) (P : jP) (a1 : Int32) (a2 : Int32) (M : jM) (N : jN) (Q : Int32 → Prop) (h : w_X12_has P a1 a2 Q) : jC l yX12_has cX12_has 2 (some .boolean) rm_X12_has LM [.int a1, .int a2] P M N (jqi P (fun r M' N' => M = M' ∧ N = N' ∧ Q r )) := by
  refine jC_of (by decide +kernel) [(0, .int a1), (1, .int a2)] (Nat.le_of_ble_eq_true rfl) rfl (fun X o => ?_)
  obtain ⟨E, hE⟩ : ∃ E, E = jE X rm_X12_has (jqi P (fun r M' N' => M = M' ∧ N = N' ∧ Q r )) := ⟨_, rfl⟩
  rw [← hE]
  unfold w_X12_has at h
  refine j_iload_n o dX12_has_0 rfl ?_
  refine j_iload_n o dX12_has_1 rfl ?_
  refine j_ishr o dX12_has_2 ?_
  refine j_iconst o (v := 1) dX12_has_3 rfl ?_
  refine j_iand o dX12_has_4 ?_
  refine j_iconst o (v := 1) dX12_has_5 rfl ?_
  refine j_icmp_ne o (tgt := 13) dX12_has_6 (by decide) (fun c1 => ?_) (fun c1 => ?_)
  · replace h := h.1 c1
    refine j_iconst o (v := 0) dX12_has_13 rfl ?_
    rw [hE]
    exact j_zret o rfl dX12_has_14 ⟨_, rfl, rfl, rfl, rfl, h⟩
  · replace h := h.2 c1
    refine j_iconst o (v := 1) dX12_has_9 rfl ?_
    refine j_goto o (tgt := 14) dX12_has_10 (by decide) ?_
    rw [hE]
    exact j_zret o rfl dX12_has_14 ⟨_, rfl, rfl, rfl, rfl, h⟩

abbrev rm_X12_isBefore : Room := { frames := 1, cells := 0, slots := 0, locals := 20 }
def w_X12_isBefore (P : jP) (a1 : Int32) (a2 : Int32) (Q : Int32 → Prop) : Prop :=
  w_J6_bitCount_0f7a4 P a1 (fun r1 =>
  w_J6_bitCount_0f7a4 P a2 (fun r4 =>
  (r1 = r4 → (
   (((a1 &&& (a1 ^^^ a2)) &&& (-(a1 ^^^ a2))) = 0 → (
    Q 0
   )) ∧ (¬ ((a1 &&& (a1 ^^^ a2)) &&& (-(a1 ^^^ a2))) = 0 → (
    Q 1
   ))
  )) ∧ (¬ r1 = r4 → (
   (r4 ≤ r1 → (
    Q 0
   )) ∧ (¬ r4 ≤ r1 → (
    Q 1
   ))
  ))))
set_option maxRecDepth 20000 in
theorem c_X12_isBefore (l : Launch) (P : jP) (a1 : Int32) (a2 : Int32) (M : jM) (N : jN) (Q : Int32 → Prop) (h : w_X12_isBefore P a1 a2 Q) : jC l yX12_isBefore cX12_isBefore 5 (some .boolean) rm_X12_isBefore LM [.int a1, .int a2] P M N (jqi P (fun r M' N' => M = M' ∧ N = N' ∧ Q r )) := by
  refine jC_of (by decide +kernel) [(0, .int a1), (1, .int a2)] (Nat.le_of_ble_eq_true rfl) rfl (fun X o => ?_)
  obtain ⟨E, hE⟩ : ∃ E, E = jE X rm_X12_isBefore (jqi P (fun r M' N' => M = M' ∧ N = N' ∧ Q r )) := ⟨_, rfl⟩
  rw [← hE]
  unfold w_X12_isBefore at h
  refine j_iload_n o dX12_isBefore_0 rfl ?_
  refine j_callSi o (c_J6_bitCount_0f7a4 l P a1 M N _ h) dX12_isBefore_1 jc_X12_117 jn_J6_bitCount_0f7a4 rfl rfl rfl rfl (fun r1 Mz2 Nz3 h => ?_)
  obtain ⟨rfl, rfl, h⟩ := h
  refine j_istore_n o [(2, .int r1), (0, .int a1), (1, .int a2)] dX12_isBefore_4 (by decide) rfl ?_
  refine j_iload_n o dX12_isBefore_5 rfl ?_
  refine j_callSi o (c_J6_bitCount_0f7a4 l P a2 M N _ h) dX12_isBefore_6 jc_X12_117 jn_J6_bitCount_0f7a4 rfl rfl rfl rfl (fun r4 Mz5 Nz6 h => ?_)
  obtain ⟨rfl, rfl, h⟩ := h
  refine j_istore_n o [(3, .int r4), (2, .int r1), (0, .int a1), (1, .int a2)] dX12_isBefore_9 (by decide) rfl ?_
  refine j_iload_n o dX12_isBefore_10 rfl ?_
  refine j_iload_n o dX12_isBefore_11 rfl ?_
  refine j_ixor o dX12_isBefore_12 ?_
  refine j_istore o [(4, .int (a1 ^^^ a2)), (3, .int r4), (2, .int r1), (0, .int a1), (1, .int a2)] dX12_isBefore_13 (by decide) rfl ?_
  refine j_iload_n o dX12_isBefore_15 rfl ?_
  refine j_iload_n o dX12_isBefore_16 rfl ?_
  refine j_icmp_eq o (tgt := 33) dX12_isBefore_17 (by decide) (fun c7 => ?_) (fun c7 => ?_)
  · replace h := h.1 c7
    refine j_iload_n o dX12_isBefore_33 rfl ?_
    refine j_iload o dX12_isBefore_34 rfl ?_
    refine j_iand o dX12_isBefore_36 ?_
    refine j_iload o dX12_isBefore_37 rfl ?_
    refine j_ineg o dX12_isBefore_39 ?_
    refine j_iand o dX12_isBefore_40 ?_
    refine j_if_eq o (tgt := 48) dX12_isBefore_41 (by decide) (fun c8 => ?_) (fun c8 => ?_)
    · replace h := h.1 c8
      refine j_iconst o (v := 0) dX12_isBefore_48 rfl ?_
      rw [hE]
      exact j_zret o rfl dX12_isBefore_49 ⟨_, rfl, rfl, rfl, rfl, h⟩
    · replace h := h.2 c8
      refine j_iconst o (v := 1) dX12_isBefore_44 rfl ?_
      refine j_goto o (tgt := 49) dX12_isBefore_45 (by decide) ?_
      rw [hE]
      exact j_zret o rfl dX12_isBefore_49 ⟨_, rfl, rfl, rfl, rfl, h⟩
  · replace h := h.2 c7
    refine j_iload_n o dX12_isBefore_20 rfl ?_
    refine j_iload_n o dX12_isBefore_21 rfl ?_
    refine j_icmp_ge o (tgt := 29) dX12_isBefore_22 (by decide) (fun c9 => ?_) (fun c9 => ?_)
    · replace h := h.1 c9
      refine j_iconst o (v := 0) dX12_isBefore_29 rfl ?_
      refine j_goto o (tgt := 49) dX12_isBefore_30 (by decide) ?_
      rw [hE]
      exact j_zret o rfl dX12_isBefore_49 ⟨_, rfl, rfl, rfl, rfl, h⟩
    · replace h := h.2 c9
      refine j_iconst o (v := 1) dX12_isBefore_25 rfl ?_
      refine j_goto o (tgt := 49) dX12_isBefore_26 (by decide) ?_
      rw [hE]
      exact j_zret o rfl dX12_isBefore_49 ⟨_, rfl, rfl, rfl, rfl, h⟩

abbrev rm_X12_bytesIn : Room := { frames := 0, cells := 0, slots := 0, locals := 0 }
def w_X12_bytesIn (P : jP) (a1 : Int32) (Q : Int32 → Prop) : Prop :=
  ∀ R5 : Int32 → Int32 → Prop, (∀ (x1 : Int32) (x2 : Int32), (
   (x2 < 0 → (
    Q x1
   )) ∧ (¬ x2 < 0 → (
    ∀ R25 : Int32 → Prop, (∀ (x4 : Int32), (
     R5 (x1 + x4) (x2 + (-8))
    ) → R25 x4) →
    (((a1 >>> (x2 &&& 31)) &&& 255) = 0 → (
     R25 0
    )) ∧ (¬ ((a1 >>> (x2 &&& 31)) &&& 255) = 0 → (
     R25 1
    ))
   ))
  ) → R5 x1 x2) →
  R5 0 24
set_option maxRecDepth 20000 in
theorem c_X12_bytesIn (l : Launch) (P : jP) (a1 : Int32) (M : jM) (N : jN) (Q : Int32 → Prop) (h : w_X12_bytesIn P a1 Q) : jC l yX12_bytesIn cX12_bytesIn 3 (some .int) rm_X12_bytesIn LM [.int a1] P M N (jqi P (fun r M' N' => M = M' ∧ N = N' ∧ Q r )) := by
  refine jC_of (by decide +kernel) [(0, .int a1)] (Nat.le_of_ble_eq_true rfl) rfl (fun X o => ?_)
  obtain ⟨E, hE⟩ : ∃ E, E = jE X rm_X12_bytesIn (jqi P (fun r M' N' => M = M' ∧ N = N' ∧ Q r )) := ⟨_, rfl⟩
  rw [← hE]
  unfold w_X12_bytesIn at h
  refine j_iconst o (v := 0) dX12_bytesIn_0 rfl ?_
  refine j_istore_n o [(1, .int 0), (0, .int a1)] dX12_bytesIn_1 (by decide) rfl ?_
  refine j_bipush o (v := 24) dX12_bytesIn_2 rfl ?_
  refine j_istore_n o [(2, .int 24), (1, .int 0), (0, .int a1)] dX12_bytesIn_4 (by decide) rfl ?_
  replace h := h (fun (x1 : Int32) (x2 : Int32) => J X P M N 0 0 E 3 5 [(0, .int a1), (1, .int x1), (2, .int x2)] []) (by
    intro x1 x2 h
    refine j_iload_n o dX12_bytesIn_5 rfl ?_
    refine j_if_lt o (tgt := 33) dX12_bytesIn_6 (by decide) (fun c3 => ?_) (fun c3 => ?_)
    · replace h := h.1 c3
      refine j_iload_n o dX12_bytesIn_33 rfl ?_
      rw [hE]
      exact j_iret o dX12_bytesIn_34 ⟨_, rfl, rfl, rfl, rfl, h⟩
    · replace h := h.2 c3
      refine j_iload_n o dX12_bytesIn_9 rfl ?_
      refine j_iload_n o dX12_bytesIn_10 rfl ?_
      refine j_iload_n o dX12_bytesIn_11 rfl ?_
      refine j_ishr o dX12_bytesIn_12 ?_
      refine j_sipush o (v := 255) dX12_bytesIn_13 rfl ?_
      refine j_iand o dX12_bytesIn_16 ?_
      replace h := h (fun (x4 : Int32) => J X P M N 0 0 E 3 25 [(0, .int a1), (2, .int x2)] [.int x4, .int x1]) (by
        intro x4 h
        refine j_iadd o dX12_bytesIn_25 ?_
        refine j_istore_n o [(1, .int (x1 + x4)), (0, .int a1), (2, .int x2)] dX12_bytesIn_26 (by decide) rfl ?_
        refine j_iinc o (v := x2 + (-8)) [(2, .int (x2 + (-8))), (1, .int (x1 + x4)), (0, .int a1)] dX12_bytesIn_27 rfl rfl (by decide) rfl ?_
        refine j_goto o (tgt := 5) dX12_bytesIn_30 (by decide) ?_
        exact j_pick [2, 1, 0] rfl h)
      refine j_if_eq o (tgt := 24) dX12_bytesIn_17 (by decide) (fun c5 => ?_) (fun c5 => ?_)
      · replace h := h.1 c5
        refine j_iconst o (v := 0) dX12_bytesIn_24 rfl ?_
        exact j_pick [0, 2] rfl h
      · replace h := h.2 c5
        refine j_iconst o (v := 1) dX12_bytesIn_20 rfl ?_
        refine j_goto o (tgt := 25) dX12_bytesIn_21 (by decide) ?_
        exact j_pick [0, 2] rfl h)
  exact j_pick [2, 1, 0] rfl h

abbrev rm_X12_put : Room := { frames := 0, cells := 0, slots := 0, locals := 0 }
def w_X12_put (P : jP) (a1 : Int32) (M : jM) (Q : jM → Prop) : Prop :=
  ∀ R3 : Int32 → jM → Prop, (∀ (x1 : Int32) (M2 : jM), (
   (x1 < 0 → (
    Q M2
   )) ∧ (¬ x1 < 0 → (
    ∀ R43 : jM → Prop, (∀ (M4 : jM), (
     R3 (x1 + (-8)) M4
    ) → R43 M4) →
    (¬ ((a1 >>> (x1 &&& 31)) &&& 255) = 0 → (
     vp_in (M2 1 4) (160) ∧
     ∀ M7 : jM, M7 = upM M2 2 (M2 1 4).toNatClampNeg ((a1 >>> (x1 &&& 31)).toInt8.toInt32).toInt8.toInt32 →
     R43 (upM M7 1 4 ((M7 1 4) + 1))
    )) ∧ (((a1 >>> (x1 &&& 31)) &&& 255) = 0 → (
     R43 M2
    ))
   ))
  ) → R3 x1 M2) →
  R3 24 M
set_option maxRecDepth 20000 in
theorem c_X12_put (l : Launch) (P : jP) (a1 : Int32) (M : jM) (N : jN) (Q : jM → Prop) (h : w_X12_put P a1 M Q) : jC l yX12_put cX12_put 3 none rm_X12_put LM [.ref (P.1 1), .int a1] P M N (jqv P (fun M' N' => N = N' ∧ Q M' )) := by
  refine jC_of (by decide +kernel) [(0, .ref (P.1 1)), (1, .int a1)] (Nat.le_of_ble_eq_true rfl) rfl (fun X o => ?_)
  obtain ⟨E, hE⟩ : ∃ E, E = jE X rm_X12_put (jqv P (fun M' N' => N = N' ∧ Q M' )) := ⟨_, rfl⟩
  rw [← hE]
  unfold w_X12_put at h
  refine j_bipush o (v := 24) dX12_put_0 rfl ?_
  refine j_istore_n o [(2, .int 24), (0, .ref (P.1 1)), (1, .int a1)] dX12_put_2 (by decide) rfl ?_
  replace h := h (fun (x1 : Int32) (M2 : jM) => J X P M2 N 0 0 E 3 3 [(0, .ref (P.1 1)), (1, .int a1), (2, .int x1)] []) (by
    intro x1 M2 h
    refine j_iload_n o dX12_put_3 rfl ?_
    refine j_if_lt o (tgt := 49) dX12_put_4 (by decide) (fun c3 => ?_) (fun c3 => ?_)
    · replace h := h.1 c3
      rw [hE]
      exact j_vret o dX12_put_49 ⟨rfl, rfl, rfl, h⟩
    · replace h := h.2 c3
      refine j_iload_n o dX12_put_7 rfl ?_
      refine j_iload_n o dX12_put_8 rfl ?_
      refine j_ishr o dX12_put_9 ?_
      refine j_sipush o (v := 255) dX12_put_10 rfl ?_
      refine j_iand o dX12_put_13 ?_
      replace h := h (fun (M4 : jM) => J X P M4 N 0 0 E 3 43 [(0, .ref (P.1 1)), (1, .int a1), (2, .int x1)] []) (by
        intro M4 h
        refine j_iinc o (v := x1 + (-8)) [(2, .int (x1 + (-8))), (0, .ref (P.1 1)), (1, .int a1)] dX12_put_43 rfl rfl (by decide) rfl ?_
        refine j_goto o (tgt := 3) dX12_put_46 (by decide) ?_
        exact j_pick [1, 2, 0] rfl h)
      refine j_if_ne o (tgt := 20) dX12_put_14 (by decide) (fun c5 => ?_) (fun c5 => ?_)
      · replace h := h.1 c5
        refine j_aload_n o dX12_put_20 rfl ?_
        refine j_getf o (g := 1) (slot := 3) (ci := 12) (v := .ref (P.1 2)) rfl jin_X12 (by decide) rfl jf_X12_9 (fun _ => rfl) rfl dX12_put_21 ?_
        refine j_aload_n o dX12_put_24 rfl ?_
        refine j_getf o (g := 1) (slot := 4) (ci := 12) (v := .int (M2 1 4)) rfl jin_X12 (by decide) rfl jf_X12_123 (fun _ => rfl) rfl dX12_put_25 ?_
        refine j_iload_n o dX12_put_28 rfl ?_
        refine j_iload_n o dX12_put_29 rfl ?_
        refine j_ishr o dX12_put_30 ?_
        refine j_i2b o dX12_put_31 ?_
        obtain ⟨hb6, h⟩ := h
        refine j_bast o (g := 2) (fun _ _ _ => rfl) hb6 dX12_put_32 ?_
        refine j_nameM (fun M7 hM7 => ?_)
        replace h := h M7 hM7
        refine j_aload_n o dX12_put_33 rfl ?_
        refine j_dup o dX12_put_34 rfl ?_
        refine j_getf o (g := 1) (slot := 4) (ci := 12) (v := .int (M7 1 4)) rfl jin_X12 (by decide) rfl jf_X12_123 (fun _ => rfl) rfl dX12_put_35 ?_
        refine j_iconst o (v := 1) dX12_put_38 rfl ?_
        refine j_iadd o dX12_put_39 ?_
        refine j_putf o (M1 := upM M7 1 4 ((M7 1 4) + 1)) (N1 := N) (g := 1) (slot := 4) (ci := 12) (ty := .int) rfl jin_X12 tyX12_ok nmX12 (by decide) rfl rfl jf_X12_123 (by decide +kernel) rfl rfl (Nat.le_of_ble_eq_true rfl) (fun _ => rfl) (fun _ => rfl) (fun _ hj => upM_ne _ _ _ hj) (fun _ _ => rfl) dX12_put_40 ?_
        exact j_pick [0, 1, 2] rfl h
      · replace h := h.2 c5
        refine j_goto o (tgt := 43) dX12_put_17 (by decide) ?_
        exact j_pick [0, 1, 2] rfl h)
  exact j_pick [1, 2, 0] rfl h

abbrev rm_X12_feed : Room := { frames := 1, cells := 0, slots := 0, locals := 22 }
def w_X12_feed (P : jP) (a1 : Int32) (a2 : Int32) (a3 : Int32) (a4 : Int32) (a5 : Int32) (M : jM) (Q : Int32 → jM → Prop) : Prop :=
  w_X12_bytesIn P a1 (fun r1 =>
  w_X12_bytesIn P a2 (fun r4 =>
  w_X12_bytesIn P a3 (fun r7 =>
  w_X12_bytesIn P a4 (fun r10 =>
  w_X12_bytesIn P a5 (fun r13 =>
  ((((((((upM M 1 0 0) 1 4) + r1) + r4) + r7) + r10) + r13) ≤ 160 → (
   w_X12_put P a1 (upM M 1 0 0) (fun M17 =>
   w_X12_put P a2 M17 (fun M19 =>
   w_X12_put P a3 M19 (fun M21 =>
   w_X12_put P a4 M21 (fun M23 =>
   w_X12_put P a5 M23 (fun M25 =>
   Q (M25 1 4) M25)))))
  )) ∧ (¬ (((((((upM M 1 0 0) 1 4) + r1) + r4) + r7) + r10) + r13) ≤ 160 → (
   Q (-1) (upM M 1 0 0)
  )))))))
set_option maxRecDepth 20000 in
theorem c_X12_feed (l : Launch) (P : jP) (a1 : Int32) (a2 : Int32) (a3 : Int32) (a4 : Int32) (a5 : Int32) (M : jM) (N : jN) (Q : Int32 → jM → Prop) (h : w_X12_feed P a1 a2 a3 a4 a5 M Q) : jC l yX12_feed cX12_feed 6 (some .int) rm_X12_feed LM [.ref (P.1 1), .int a1, .int a2, .int a3, .int a4, .int a5] P M N (jqi P (fun r M' N' => N = N' ∧ Q r M' )) := by
  refine jC_of (by decide +kernel) [(0, .ref (P.1 1)), (1, .int a1), (2, .int a2), (3, .int a3), (4, .int a4), (5, .int a5)] (Nat.le_of_ble_eq_true rfl) rfl (fun X o => ?_)
  obtain ⟨E, hE⟩ : ∃ E, E = jE X rm_X12_feed (jqi P (fun r M' N' => N = N' ∧ Q r M' )) := ⟨_, rfl⟩
  rw [← hE]
  unfold w_X12_feed at h
  refine j_aload_n o dX12_feed_0 rfl ?_
  refine j_iconst o (v := 0) dX12_feed_1 rfl ?_
  refine j_putf o (M1 := upM M 1 0 0) (N1 := N) (g := 1) (slot := 0) (ci := 12) (ty := .int) rfl jin_X12 tyX12_ok nmX12 (by decide) rfl rfl jf_X12_114 (by decide +kernel) rfl rfl (Nat.le_of_ble_eq_true rfl) (fun _ => rfl) (fun _ => rfl) (fun _ hj => upM_ne _ _ _ hj) (fun _ _ => rfl) dX12_feed_2 ?_
  refine j_aload_n o dX12_feed_5 rfl ?_
  refine j_getf o (g := 1) (slot := 4) (ci := 12) (v := .int ((upM M 1 0 0) 1 4)) rfl jin_X12 (by decide) rfl jf_X12_123 (fun _ => rfl) rfl dX12_feed_6 ?_
  refine j_iload_n o dX12_feed_9 rfl ?_
  refine j_callSi o (c_X12_bytesIn l P a1 (upM M 1 0 0) N _ h) dX12_feed_10 jc_X12_126 jn_X12_bytesIn rfl rfl rfl rfl (fun r1 Mz2 Nz3 h => ?_)
  obtain ⟨rfl, rfl, h⟩ := h
  refine j_iadd o dX12_feed_13 ?_
  refine j_iload_n o dX12_feed_14 rfl ?_
  refine j_callSi o (c_X12_bytesIn l P a2 (upM M 1 0 0) N _ h) dX12_feed_15 jc_X12_126 jn_X12_bytesIn rfl rfl rfl rfl (fun r4 Mz5 Nz6 h => ?_)
  obtain ⟨rfl, rfl, h⟩ := h
  refine j_iadd o dX12_feed_18 ?_
  refine j_iload_n o dX12_feed_19 rfl ?_
  refine j_callSi o (c_X12_bytesIn l P a3 (upM M 1 0 0) N _ h) dX12_feed_20 jc_X12_126 jn_X12_bytesIn rfl rfl rfl rfl (fun r7 Mz8 Nz9 h => ?_)
  obtain ⟨rfl, rfl, h⟩ := h
  refine j_iadd o dX12_feed_23 ?_
  refine j_iload o dX12_feed_24 rfl ?_
  refine j_callSi o (c_X12_bytesIn l P a4 (upM M 1 0 0) N _ h) dX12_feed_26 jc_X12_126 jn_X12_bytesIn rfl rfl rfl rfl (fun r10 Mz11 Nz12 h => ?_)
  obtain ⟨rfl, rfl, h⟩ := h
  refine j_iadd o dX12_feed_29 ?_
  refine j_iload o dX12_feed_30 rfl ?_
  refine j_callSi o (c_X12_bytesIn l P a5 (upM M 1 0 0) N _ h) dX12_feed_32 jc_X12_126 jn_X12_bytesIn rfl rfl rfl rfl (fun r13 Mz14 Nz15 h => ?_)
  obtain ⟨rfl, rfl, h⟩ := h
  refine j_iadd o dX12_feed_35 ?_
  refine j_sipush o (v := 160) dX12_feed_36 rfl ?_
  refine j_icmp_le o (tgt := 44) dX12_feed_39 (by decide) (fun c16 => ?_) (fun c16 => ?_)
  · replace h := h.1 c16
    refine j_aload_n o dX12_feed_44 rfl ?_
    refine j_iload_n o dX12_feed_45 rfl ?_
    refine j_callVv (g := 1) (ci := 12) o (c_X12_put l P a1 (upM M 1 0 0) N _ h) dX12_feed_46 jc_X12_129 jn_X12_put rfl rfl rfl (fun _ => rfl) rfl rfl (fun M17 Nz18 h => ?_)
    obtain ⟨rfl, h⟩ := h
    refine j_aload_n o dX12_feed_49 rfl ?_
    refine j_iload_n o dX12_feed_50 rfl ?_
    refine j_callVv (g := 1) (ci := 12) o (c_X12_put l P a2 M17 N _ h) dX12_feed_51 jc_X12_129 jn_X12_put rfl rfl rfl (fun _ => rfl) rfl rfl (fun M19 Nz20 h => ?_)
    obtain ⟨rfl, h⟩ := h
    refine j_aload_n o dX12_feed_54 rfl ?_
    refine j_iload_n o dX12_feed_55 rfl ?_
    refine j_callVv (g := 1) (ci := 12) o (c_X12_put l P a3 M19 N _ h) dX12_feed_56 jc_X12_129 jn_X12_put rfl rfl rfl (fun _ => rfl) rfl rfl (fun M21 Nz22 h => ?_)
    obtain ⟨rfl, h⟩ := h
    refine j_aload_n o dX12_feed_59 rfl ?_
    refine j_iload o dX12_feed_60 rfl ?_
    refine j_callVv (g := 1) (ci := 12) o (c_X12_put l P a4 M21 N _ h) dX12_feed_62 jc_X12_129 jn_X12_put rfl rfl rfl (fun _ => rfl) rfl rfl (fun M23 Nz24 h => ?_)
    obtain ⟨rfl, h⟩ := h
    refine j_aload_n o dX12_feed_65 rfl ?_
    refine j_iload o dX12_feed_66 rfl ?_
    refine j_callVv (g := 1) (ci := 12) o (c_X12_put l P a5 M23 N _ h) dX12_feed_68 jc_X12_129 jn_X12_put rfl rfl rfl (fun _ => rfl) rfl rfl (fun M25 Nz26 h => ?_)
    obtain ⟨rfl, h⟩ := h
    refine j_aload_n o dX12_feed_71 rfl ?_
    refine j_getf o (g := 1) (slot := 4) (ci := 12) (v := .int (M25 1 4)) rfl jin_X12 (by decide) rfl jf_X12_123 (fun _ => rfl) rfl dX12_feed_72 ?_
    rw [hE]
    exact j_iret o dX12_feed_75 ⟨_, rfl, rfl, rfl, h⟩
  · replace h := h.2 c16
    refine j_iconst o (v := (-1)) dX12_feed_42 rfl ?_
    rw [hE]
    exact j_iret o dX12_feed_43 ⟨_, rfl, rfl, rfl, h⟩

abbrev rm_X12_end : Room := { frames := 0, cells := 0, slots := 0, locals := 0 }
def w_X12_end (P : jP) (a1 : Int32) (M : jM) (Q : Int32 → jM → Prop) : Prop :=
  (a1 < 0 → (
   Q 0 (upM M 1 0 0)
  )) ∧ (¬ a1 < 0 → (
   (a1 ≤ ((upM M 1 0 0) 1 4) → (
    Q 1 (upM (upM M 1 0 0) 1 4 a1)
   )) ∧ (¬ a1 ≤ ((upM M 1 0 0) 1 4) → (
    Q 0 (upM M 1 0 0)
   ))
  ))
set_option maxRecDepth 20000 in
theorem c_X12_end (l : Launch) (P : jP) (a1 : Int32) (M : jM) (N : jN) (Q : Int32 → jM → Prop) (h : w_X12_end P a1 M Q) : jC l yX12_end cX12_end 2 (some .boolean) rm_X12_end LM [.ref (P.1 1), .int a1] P M N (jqi P (fun r M' N' => N = N' ∧ Q r M' )) := by
  refine jC_of (by decide +kernel) [(0, .ref (P.1 1)), (1, .int a1)] (Nat.le_of_ble_eq_true rfl) rfl (fun X o => ?_)
  obtain ⟨E, hE⟩ : ∃ E, E = jE X rm_X12_end (jqi P (fun r M' N' => N = N' ∧ Q r M' )) := ⟨_, rfl⟩
  rw [← hE]
  unfold w_X12_end at h
  refine j_aload_n o dX12_end_0 rfl ?_
  refine j_iconst o (v := 0) dX12_end_1 rfl ?_
  refine j_putf o (M1 := upM M 1 0 0) (N1 := N) (g := 1) (slot := 0) (ci := 12) (ty := .int) rfl jin_X12 tyX12_ok nmX12 (by decide) rfl rfl jf_X12_114 (by decide +kernel) rfl rfl (Nat.le_of_ble_eq_true rfl) (fun _ => rfl) (fun _ => rfl) (fun _ hj => upM_ne _ _ _ hj) (fun _ _ => rfl) dX12_end_2 ?_
  refine j_iload_n o dX12_end_5 rfl ?_
  refine j_if_lt o (tgt := 17) dX12_end_6 (by decide) (fun c1 => ?_) (fun c1 => ?_)
  · replace h := h.1 c1
    refine j_iconst o (v := 0) dX12_end_17 rfl ?_
    rw [hE]
    exact j_zret o rfl dX12_end_18 ⟨_, rfl, rfl, rfl, h⟩
  · replace h := h.2 c1
    refine j_iload_n o dX12_end_9 rfl ?_
    refine j_aload_n o dX12_end_10 rfl ?_
    refine j_getf o (g := 1) (slot := 4) (ci := 12) (v := .int ((upM M 1 0 0) 1 4)) rfl jin_X12 (by decide) rfl jf_X12_123 (fun _ => rfl) rfl dX12_end_11 ?_
    refine j_icmp_le o (tgt := 19) dX12_end_14 (by decide) (fun c2 => ?_) (fun c2 => ?_)
    · replace h := h.1 c2
      refine j_aload_n o dX12_end_19 rfl ?_
      refine j_iload_n o dX12_end_20 rfl ?_
      refine j_putf o (M1 := upM (upM M 1 0 0) 1 4 a1) (N1 := N) (g := 1) (slot := 4) (ci := 12) (ty := .int) rfl jin_X12 tyX12_ok nmX12 (by decide) rfl rfl jf_X12_123 (by decide +kernel) rfl rfl (Nat.le_of_ble_eq_true rfl) (fun _ => rfl) (fun _ => rfl) (fun _ hj => upM_ne _ _ _ hj) (fun _ _ => rfl) dX12_end_21 ?_
      refine j_iconst o (v := 1) dX12_end_24 rfl ?_
      rw [hE]
      exact j_zret o rfl dX12_end_25 ⟨_, rfl, rfl, rfl, h⟩
    · replace h := h.2 c2
      refine j_iconst o (v := 0) dX12_end_17 rfl ?_
      rw [hE]
      exact j_zret o rfl dX12_end_18 ⟨_, rfl, rfl, rfl, h⟩

abbrev rm_X12_here : Room := { frames := 0, cells := 0, slots := 0, locals := 0 }
def w_X12_here (P : jP)  (M : jM) (Q : Int32 → Prop) : Prop :=
  ((M 1 4) ≤ (M 1 5) → (
   Q (-1)
  )) ∧ (¬ (M 1 4) ≤ (M 1 5) → (
   vp_in (M 1 5) (160) ∧
   Q ((M 2 (M 1 5).toNatClampNeg) &&& 255)
  ))
set_option maxRecDepth 20000 in
theorem c_X12_here (l : Launch) (P : jP)  (M : jM) (N : jN) (Q : Int32 → Prop) (h : w_X12_here P M Q) : jC l yX12_here cX12_here 1 (some .int) rm_X12_here LM [.ref (P.1 1)] P M N (jqi P (fun r M' N' => M = M' ∧ N = N' ∧ Q r )) := by
  refine jC_of (by decide +kernel) [(0, .ref (P.1 1))] (Nat.le_of_ble_eq_true rfl) rfl (fun X o => ?_)
  obtain ⟨E, hE⟩ : ∃ E, E = jE X rm_X12_here (jqi P (fun r M' N' => M = M' ∧ N = N' ∧ Q r )) := ⟨_, rfl⟩
  rw [← hE]
  unfold w_X12_here at h
  refine j_aload_n o dX12_here_0 rfl ?_
  refine j_getf o (g := 1) (slot := 5) (ci := 12) (v := .int (M 1 5)) rfl jin_X12 (by decide) rfl jf_X12_133 (fun _ => rfl) rfl dX12_here_1 ?_
  refine j_aload_n o dX12_here_4 rfl ?_
  refine j_getf o (g := 1) (slot := 4) (ci := 12) (v := .int (M 1 4)) rfl jin_X12 (by decide) rfl jf_X12_123 (fun _ => rfl) rfl dX12_here_5 ?_
  refine j_icmp_ge o (tgt := 27) dX12_here_8 (by decide) (fun c1 => ?_) (fun c1 => ?_)
  · replace h := h.1 c1
    refine j_iconst o (v := (-1)) dX12_here_27 rfl ?_
    rw [hE]
    exact j_iret o dX12_here_28 ⟨_, rfl, rfl, rfl, rfl, h⟩
  · replace h := h.2 c1
    refine j_aload_n o dX12_here_11 rfl ?_
    refine j_getf o (g := 1) (slot := 3) (ci := 12) (v := .ref (P.1 2)) rfl jin_X12 (by decide) rfl jf_X12_9 (fun _ => rfl) rfl dX12_here_12 ?_
    refine j_aload_n o dX12_here_15 rfl ?_
    refine j_getf o (g := 1) (slot := 5) (ci := 12) (v := .int (M 1 5)) rfl jin_X12 (by decide) rfl jf_X12_133 (fun _ => rfl) rfl dX12_here_16 ?_
    obtain ⟨hb2, h⟩ := h
    refine j_bald o (g := 2) (fun _ => rfl) hb2 dX12_here_19 ?_
    refine j_sipush o (v := 255) dX12_here_20 rfl ?_
    refine j_iand o dX12_here_23 ?_
    refine j_goto o (tgt := 28) dX12_here_24 (by decide) ?_
    rw [hE]
    exact j_iret o dX12_here_28 ⟨_, rfl, rfl, rfl, rfl, h⟩

abbrev rm_X12_look : Room := { frames := 1, cells := 0, slots := 0, locals := 20 }
def w_X12_look (P : jP)  (M : jM) (Q : Int32 → jM → Prop) : Prop :=
  ∀ R0 : jM → Prop, (∀ (M1 : jM), (
   w_X12_here P M1 (fun r2 =>
   (¬ r2 = 32 → (
    w_X12_here P M1 (fun r6 =>
    Q r6 M1)
   )) ∧ (r2 = 32 → (
    R0 (upM M1 1 5 ((M1 1 5) + 1))
   )))
  ) → R0 M1) →
  R0 M
set_option maxRecDepth 20000 in
theorem c_X12_look (l : Launch) (P : jP)  (M : jM) (N : jN) (Q : Int32 → jM → Prop) (h : w_X12_look P M Q) : jC l yX12_look cX12_look 1 (some .int) rm_X12_look LM [.ref (P.1 1)] P M N (jqi P (fun r M' N' => N = N' ∧ Q r M' )) := by
  refine jC_of (by decide +kernel) [(0, .ref (P.1 1))] (Nat.le_of_ble_eq_true rfl) rfl (fun X o => ?_)
  obtain ⟨E, hE⟩ : ∃ E, E = jE X rm_X12_look (jqi P (fun r M' N' => N = N' ∧ Q r M' )) := ⟨_, rfl⟩
  rw [← hE]
  unfold w_X12_look at h
  replace h := h (fun (M1 : jM) => J X P M1 N 0 0 E 1 0 [(0, .ref (P.1 1))] []) (by
    intro M1 h
    refine j_aload_n o dX12_look_0 rfl ?_
    refine j_callVi (g := 1) (ci := 12) o (c_X12_here l P M1 N _ h) dX12_look_1 jc_X12_136 jn_X12_here rfl rfl rfl (fun _ => rfl) rfl rfl (fun r2 Mz3 Nz4 h => ?_)
    obtain ⟨rfl, rfl, h⟩ := h
    refine j_bipush o (v := 32) dX12_look_4 rfl ?_
    refine j_icmp_ne o (tgt := 22) dX12_look_6 (by decide) (fun c5 => ?_) (fun c5 => ?_)
    · replace h := h.1 c5
      refine j_aload_n o dX12_look_22 rfl ?_
      refine j_callVi (g := 1) (ci := 12) o (c_X12_here l P M1 N _ h) dX12_look_23 jc_X12_136 jn_X12_here rfl rfl rfl (fun _ => rfl) rfl rfl (fun r6 Mz7 Nz8 h => ?_)
      obtain ⟨rfl, rfl, h⟩ := h
      rw [hE]
      exact j_iret o dX12_look_26 ⟨_, rfl, rfl, rfl, h⟩
    · replace h := h.2 c5
      refine j_aload_n o dX12_look_9 rfl ?_
      refine j_dup o dX12_look_10 rfl ?_
      refine j_getf o (g := 1) (slot := 5) (ci := 12) (v := .int (M1 1 5)) rfl jin_X12 (by decide) rfl jf_X12_133 (fun _ => rfl) rfl dX12_look_11 ?_
      refine j_iconst o (v := 1) dX12_look_14 rfl ?_
      refine j_iadd o dX12_look_15 ?_
      refine j_putf o (M1 := upM M1 1 5 ((M1 1 5) + 1)) (N1 := N) (g := 1) (slot := 5) (ci := 12) (ty := .int) rfl jin_X12 tyX12_ok nmX12 (by decide) rfl rfl jf_X12_133 (by decide +kernel) rfl rfl (Nat.le_of_ble_eq_true rfl) (fun _ => rfl) (fun _ => rfl) (fun _ hj => upM_ne _ _ _ hj) (fun _ _ => rfl) dX12_look_16 ?_
      refine j_goto o (tgt := 0) dX12_look_19 (by decide) ?_
      exact j_pick [0] rfl h)
  exact j_pick [0] rfl h

abbrev rm_X12_fails : Room := { frames := 0, cells := 0, slots := 0, locals := 0 }
def w_X12_fails (P : jP)  (M : jM) (Q : Int32 → jM → Prop) : Prop :=
  (¬ (M 1 6) = (-1) → (
   Q 0 M
  )) ∧ ((M 1 6) = (-1) → (
   Q 0 (upM M 1 6 (M 1 5))
  ))
set_option maxRecDepth 20000 in
theorem c_X12_fails (l : Launch) (P : jP)  (M : jM) (N : jN) (Q : Int32 → jM → Prop) (h : w_X12_fails P M Q) : jC l yX12_fails cX12_fails 1 (some .boolean) rm_X12_fails LM [.ref (P.1 1)] P M N (jqi P (fun r M' N' => N = N' ∧ Q r M' )) := by
  refine jC_of (by decide +kernel) [(0, .ref (P.1 1))] (Nat.le_of_ble_eq_true rfl) rfl (fun X o => ?_)
  obtain ⟨E, hE⟩ : ∃ E, E = jE X rm_X12_fails (jqi P (fun r M' N' => N = N' ∧ Q r M' )) := ⟨_, rfl⟩
  rw [← hE]
  unfold w_X12_fails at h
  refine j_aload_n o dX12_fails_0 rfl ?_
  refine j_getf o (g := 1) (slot := 6) (ci := 12) (v := .int (M 1 6)) rfl jin_X12 (by decide) rfl jf_X12_140 (fun _ => rfl) rfl dX12_fails_1 ?_
  refine j_iconst o (v := (-1)) dX12_fails_4 rfl ?_
  refine j_icmp_ne o (tgt := 16) dX12_fails_5 (by decide) (fun c1 => ?_) (fun c1 => ?_)
  · replace h := h.1 c1
    refine j_iconst o (v := 0) dX12_fails_16 rfl ?_
    rw [hE]
    exact j_zret o rfl dX12_fails_17 ⟨_, rfl, rfl, rfl, h⟩
  · replace h := h.2 c1
    refine j_aload_n o dX12_fails_8 rfl ?_
    refine j_aload_n o dX12_fails_9 rfl ?_
    refine j_getf o (g := 1) (slot := 5) (ci := 12) (v := .int (M 1 5)) rfl jin_X12 (by decide) rfl jf_X12_133 (fun _ => rfl) rfl dX12_fails_10 ?_
    refine j_putf o (M1 := upM M 1 6 (M 1 5)) (N1 := N) (g := 1) (slot := 6) (ci := 12) (ty := .int) rfl jin_X12 tyX12_ok nmX12 (by decide) rfl rfl jf_X12_140 (by decide +kernel) rfl rfl (Nat.le_of_ble_eq_true rfl) (fun _ => rfl) (fun _ => rfl) (fun _ hj => upM_ne _ _ _ hj) (fun _ _ => rfl) dX12_fails_13 ?_
    refine j_iconst o (v := 0) dX12_fails_16 rfl ?_
    rw [hE]
    exact j_zret o rfl dX12_fails_17 ⟨_, rfl, rfl, rfl, h⟩

abbrev rm_X12_takes : Room := { frames := 2, cells := 0, slots := 0, locals := 40 }
def w_X12_takes (P : jP) (a1 : Int32) (M : jM) (Q : Int32 → jM → Prop) : Prop :=
  ∀ R16 : jM → Prop, (∀ (M1 : jM), (
   w_X12_fails P M1 (fun r2 M3 =>
   jb r2 ∧
   Q r2 M3)
  ) → R16 M1) →
  (¬ (M 1 6) = (-1) → (
   R16 M
  )) ∧ ((M 1 6) = (-1) → (
   w_X12_look P M (fun r7 M8 =>
   (r7 = a1 → (
    Q 1 (upM M8 1 5 ((M8 1 5) + 1))
   )) ∧ (¬ r7 = a1 → (
    R16 M8
   )))
  ))
set_option maxRecDepth 20000 in
theorem c_X12_takes (l : Launch) (P : jP) (a1 : Int32) (M : jM) (N : jN) (Q : Int32 → jM → Prop) (h : w_X12_takes P a1 M Q) : jC l yX12_takes cX12_takes 2 (some .boolean) rm_X12_takes LM [.ref (P.1 1), .int a1] P M N (jqi P (fun r M' N' => N = N' ∧ Q r M' )) := by
  refine jC_of (by decide +kernel) [(0, .ref (P.1 1)), (1, .int a1)] (Nat.le_of_ble_eq_true rfl) rfl (fun X o => ?_)
  obtain ⟨E, hE⟩ : ∃ E, E = jE X rm_X12_takes (jqi P (fun r M' N' => N = N' ∧ Q r M' )) := ⟨_, rfl⟩
  rw [← hE]
  unfold w_X12_takes at h
  refine j_aload_n o dX12_takes_0 rfl ?_
  refine j_getf o (g := 1) (slot := 6) (ci := 12) (v := .int (M 1 6)) rfl jin_X12 (by decide) rfl jf_X12_140 (fun _ => rfl) rfl dX12_takes_1 ?_
  refine j_iconst o (v := (-1)) dX12_takes_4 rfl ?_
  replace h := h (fun (M1 : jM) => J X P M1 N 0 0 E 2 16 [(0, .ref (P.1 1))] []) (by
    intro M1 h
    refine j_aload_n o dX12_takes_16 rfl ?_
    refine j_callVi (g := 1) (ci := 12) o (c_X12_fails l P M1 N _ h) dX12_takes_17 jc_X12_146 jn_X12_fails rfl rfl rfl (fun _ => rfl) rfl rfl (fun r2 M3 Nz4 h => ?_)
    obtain ⟨rfl, h⟩ := h
    obtain ⟨hz5, h⟩ := h
    rw [hE]
    exact j_zret o hz5.1 dX12_takes_20 ⟨_, rfl, rfl, rfl, h⟩)
  refine j_icmp_ne o (tgt := 16) dX12_takes_5 (by decide) (fun c6 => ?_) (fun c6 => ?_)
  · replace h := h.1 c6
    exact j_pick [0] rfl h
  · replace h := h.2 c6
    refine j_aload_n o dX12_takes_8 rfl ?_
    refine j_callVi (g := 1) (ci := 12) o (c_X12_look l P M N _ h) dX12_takes_9 jc_X12_143 jn_X12_look rfl rfl rfl (fun _ => rfl) rfl rfl (fun r7 M8 Nz9 h => ?_)
    obtain ⟨rfl, h⟩ := h
    refine j_iload_n o dX12_takes_12 rfl ?_
    refine j_icmp_eq o (tgt := 21) dX12_takes_13 (by decide) (fun c10 => ?_) (fun c10 => ?_)
    · replace h := h.1 c10
      refine j_aload_n o dX12_takes_21 rfl ?_
      refine j_dup o dX12_takes_22 rfl ?_
      refine j_getf o (g := 1) (slot := 5) (ci := 12) (v := .int (M8 1 5)) rfl jin_X12 (by decide) rfl jf_X12_133 (fun _ => rfl) rfl dX12_takes_23 ?_
      refine j_iconst o (v := 1) dX12_takes_26 rfl ?_
      refine j_iadd o dX12_takes_27 ?_
      refine j_putf o (M1 := upM M8 1 5 ((M8 1 5) + 1)) (N1 := N) (g := 1) (slot := 5) (ci := 12) (ty := .int) rfl jin_X12 tyX12_ok nmX12 (by decide) rfl rfl jf_X12_133 (by decide +kernel) rfl rfl (Nat.le_of_ble_eq_true rfl) (fun _ => rfl) (fun _ => rfl) (fun _ hj => upM_ne _ _ _ hj) (fun _ _ => rfl) dX12_takes_28 ?_
      refine j_iconst o (v := 1) dX12_takes_31 rfl ?_
      rw [hE]
      exact j_zret o rfl dX12_takes_32 ⟨_, rfl, rfl, rfl, h⟩
    · replace h := h.2 c10
      exact j_pick [0] rfl h

abbrev rm_X12_goesIn : Room := { frames := 1, cells := 0, slots := 0, locals := 20 }
def w_X12_goesIn (P : jP)  (M : jM) (Q : Int32 → jM → Prop) : Prop :=
  (¬ (M 1 7) = 6 → (
   ∀ M2 : jM, M2 = upM (upM M 1 7 ((M 1 7) + 1)) 1 5 (((upM M 1 7 ((M 1 7) + 1)) 1 5) + 1) →
   Q 1 M2
  )) ∧ ((M 1 7) = 6 → (
   w_X12_fails P M (fun r3 M4 =>
   jb r3 ∧
   Q r3 M4)
  ))
set_option maxRecDepth 20000 in
theorem c_X12_goesIn (l : Launch) (P : jP)  (M : jM) (N : jN) (Q : Int32 → jM → Prop) (h : w_X12_goesIn P M Q) : jC l yX12_goesIn cX12_goesIn 1 (some .boolean) rm_X12_goesIn LM [.ref (P.1 1)] P M N (jqi P (fun r M' N' => N = N' ∧ Q r M' )) := by
  refine jC_of (by decide +kernel) [(0, .ref (P.1 1))] (Nat.le_of_ble_eq_true rfl) rfl (fun X o => ?_)
  obtain ⟨E, hE⟩ : ∃ E, E = jE X rm_X12_goesIn (jqi P (fun r M' N' => N = N' ∧ Q r M' )) := ⟨_, rfl⟩
  rw [← hE]
  unfold w_X12_goesIn at h
  refine j_aload_n o dX12_goesIn_0 rfl ?_
  refine j_getf o (g := 1) (slot := 7) (ci := 12) (v := .int (M 1 7)) rfl jin_X12 (by decide) rfl jf_X12_150 (fun _ => rfl) rfl dX12_goesIn_1 ?_
  refine j_bipush o (v := 6) dX12_goesIn_4 rfl ?_
  refine j_icmp_ne o (tgt := 14) dX12_goesIn_6 (by decide) (fun c1 => ?_) (fun c1 => ?_)
  · replace h := h.1 c1
    refine j_aload_n o dX12_goesIn_14 rfl ?_
    refine j_dup o dX12_goesIn_15 rfl ?_
    refine j_getf o (g := 1) (slot := 7) (ci := 12) (v := .int (M 1 7)) rfl jin_X12 (by decide) rfl jf_X12_150 (fun _ => rfl) rfl dX12_goesIn_16 ?_
    refine j_iconst o (v := 1) dX12_goesIn_19 rfl ?_
    refine j_iadd o dX12_goesIn_20 ?_
    refine j_putf o (M1 := upM M 1 7 ((M 1 7) + 1)) (N1 := N) (g := 1) (slot := 7) (ci := 12) (ty := .int) rfl jin_X12 tyX12_ok nmX12 (by decide) rfl rfl jf_X12_150 (by decide +kernel) rfl rfl (Nat.le_of_ble_eq_true rfl) (fun _ => rfl) (fun _ => rfl) (fun _ hj => upM_ne _ _ _ hj) (fun _ _ => rfl) dX12_goesIn_21 ?_
    refine j_aload_n o dX12_goesIn_24 rfl ?_
    refine j_dup o dX12_goesIn_25 rfl ?_
    refine j_getf o (g := 1) (slot := 5) (ci := 12) (v := .int ((upM M 1 7 ((M 1 7) + 1)) 1 5)) rfl jin_X12 (by decide) rfl jf_X12_133 (fun _ => rfl) rfl dX12_goesIn_26 ?_
    refine j_iconst o (v := 1) dX12_goesIn_29 rfl ?_
    refine j_iadd o dX12_goesIn_30 ?_
    refine j_putf o (M1 := upM (upM M 1 7 ((M 1 7) + 1)) 1 5 (((upM M 1 7 ((M 1 7) + 1)) 1 5) + 1)) (N1 := N) (g := 1) (slot := 5) (ci := 12) (ty := .int) rfl jin_X12 tyX12_ok nmX12 (by decide) rfl rfl jf_X12_133 (by decide +kernel) rfl rfl (Nat.le_of_ble_eq_true rfl) (fun _ => rfl) (fun _ => rfl) (fun _ hj => upM_ne _ _ _ hj) (fun _ _ => rfl) dX12_goesIn_31 ?_
    refine j_nameM (fun M2 hM2 => ?_)
    replace h := h M2 hM2
    refine j_iconst o (v := 1) dX12_goesIn_34 rfl ?_
    rw [hE]
    exact j_zret o rfl dX12_goesIn_35 ⟨_, rfl, rfl, rfl, h⟩
  · replace h := h.2 c1
    refine j_aload_n o dX12_goesIn_9 rfl ?_
    refine j_callVi (g := 1) (ci := 12) o (c_X12_fails l P M N _ h) dX12_goesIn_10 jc_X12_146 jn_X12_fails rfl rfl rfl (fun _ => rfl) rfl rfl (fun r3 M4 Nz5 h => ?_)
    obtain ⟨rfl, h⟩ := h
    obtain ⟨hz6, h⟩ := h
    rw [hE]
    exact j_zret o hz6.1 dX12_goesIn_13 ⟨_, rfl, rfl, rfl, h⟩

abbrev rm_X12_isFact : Room := { frames := 0, cells := 0, slots := 0, locals := 0 }
def w_X12_isFact (P : jP) (a1 : Int32) (M : jM) (Q : Int32 → Prop) : Prop :=
  (a1 < 97 → (
   Q 0
  )) ∧ (¬ a1 < 97 → (
   ((97 + (M 1 1)) ≤ a1 → (
    Q 0
   )) ∧ (¬ (97 + (M 1 1)) ≤ a1 → (
    Q 1
   ))
  ))
set_option maxRecDepth 20000 in
theorem c_X12_isFact (l : Launch) (P : jP) (a1 : Int32) (M : jM) (N : jN) (Q : Int32 → Prop) (h : w_X12_isFact P a1 M Q) : jC l yX12_isFact cX12_isFact 2 (some .boolean) rm_X12_isFact LM [.ref (P.1 1), .int a1] P M N (jqi P (fun r M' N' => M = M' ∧ N = N' ∧ Q r )) := by
  refine jC_of (by decide +kernel) [(0, .ref (P.1 1)), (1, .int a1)] (Nat.le_of_ble_eq_true rfl) rfl (fun X o => ?_)
  obtain ⟨E, hE⟩ : ∃ E, E = jE X rm_X12_isFact (jqi P (fun r M' N' => M = M' ∧ N = N' ∧ Q r )) := ⟨_, rfl⟩
  rw [← hE]
  unfold w_X12_isFact at h
  refine j_iload_n o dX12_isFact_0 rfl ?_
  refine j_bipush o (v := 97) dX12_isFact_1 rfl ?_
  refine j_icmp_lt o (tgt := 21) dX12_isFact_3 (by decide) (fun c1 => ?_) (fun c1 => ?_)
  · replace h := h.1 c1
    refine j_iconst o (v := 0) dX12_isFact_21 rfl ?_
    rw [hE]
    exact j_zret o rfl dX12_isFact_22 ⟨_, rfl, rfl, rfl, rfl, h⟩
  · replace h := h.2 c1
    refine j_iload_n o dX12_isFact_6 rfl ?_
    refine j_bipush o (v := 97) dX12_isFact_7 rfl ?_
    refine j_aload_n o dX12_isFact_9 rfl ?_
    refine j_getf o (g := 1) (slot := 1) (ci := 12) (v := .int (M 1 1)) rfl jin_X12 (by decide) rfl jf_X12_107 (fun _ => rfl) rfl dX12_isFact_10 ?_
    refine j_iadd o dX12_isFact_13 ?_
    refine j_icmp_ge o (tgt := 21) dX12_isFact_14 (by decide) (fun c2 => ?_) (fun c2 => ?_)
    · replace h := h.1 c2
      refine j_iconst o (v := 0) dX12_isFact_21 rfl ?_
      rw [hE]
      exact j_zret o rfl dX12_isFact_22 ⟨_, rfl, rfl, rfl, rfl, h⟩
    · replace h := h.2 c2
      refine j_iconst o (v := 1) dX12_isFact_17 rfl ?_
      refine j_goto o (tgt := 22) dX12_isFact_18 (by decide) ?_
      rw [hE]
      exact j_zret o rfl dX12_isFact_22 ⟨_, rfl, rfl, rfl, rfl, h⟩

abbrev rm_X12_some : Room := { frames := 2, cells := 0, slots := 0, locals := 40 }
def w_X12_some (P : jP)  (M : jM) (Q : Int32 → jM → Prop) : Prop :=
  w_X12_here P M (fun r1 =>
  w_X12_here P (upM M 1 5 ((M 1 5) + 1)) (fun r4 =>
  (r4 = 35 → (
   ∀ M8 : jM, M8 = upM (upM M 1 5 ((M 1 5) + 1)) 1 5 (((upM M 1 5 ((M 1 5) + 1)) 1 5) + 1) →
   ∀ R44 : Int32 → jM → Prop, (∀ (x9 : Int32) (M10 : jM), (
    w_X12_look P M10 (fun r11 M12 =>
    w_X12_isFact P r11 M12 (fun r14 =>
    (r14 = 0 → (
     (¬ x9 = 0 → (
      w_J6_bitCount_0f7a4 P (x9 &&& (M12 1 8)) (fun r19 =>
      (r19 < (r1 - 48) → (
       Q 0 M12
      )) ∧ (¬ r19 < (r1 - 48) → (
       Q 1 M12
      )))
     )) ∧ (x9 = 0 → (
      w_X12_fails P M12 (fun r23 M24 =>
      jb r23 ∧
      Q r23 M24)
     ))
    )) ∧ (¬ r14 = 0 → (
     w_X12_here P M12 (fun r27 =>
     w_X12_has P x9 (r27 - 97) (fun r30 =>
     (r30 = 0 → (
      w_X12_here P M12 (fun r34 =>
      R44 (x9 ||| ((1 : Int32) <<< ((r34 - 97) &&& 31))) (upM M12 1 5 ((M12 1 5) + 1)))
     )) ∧ (¬ r30 = 0 → (
      w_X12_fails P M12 (fun r37 M38 =>
      jb r37 ∧
      Q r37 M38)
     ))))
    ))))
   ) → R44 x9 M10) →
   R44 0 M8
  )) ∧ (¬ r4 = 35 → (
   w_X12_fails P (upM M 1 5 ((M 1 5) + 1)) (fun r41 M42 =>
   jb r41 ∧
   Q r41 M42)
  ))))
set_option maxRecDepth 20000 in
theorem c_X12_some (l : Launch) (P : jP)  (M : jM) (N : jN) (Q : Int32 → jM → Prop) (h : w_X12_some P M Q) : jC l yX12_some cX12_some 3 (some .boolean) rm_X12_some LM [.ref (P.1 1)] P M N (jqi P (fun r M' N' => N = N' ∧ Q r M' )) := by
  refine jC_of (by decide +kernel) [(0, .ref (P.1 1))] (Nat.le_of_ble_eq_true rfl) rfl (fun X o => ?_)
  obtain ⟨E, hE⟩ : ∃ E, E = jE X rm_X12_some (jqi P (fun r M' N' => N = N' ∧ Q r M' )) := ⟨_, rfl⟩
  rw [← hE]
  unfold w_X12_some at h
  refine j_aload_n o dX12_some_0 rfl ?_
  refine j_callVi (g := 1) (ci := 12) o (c_X12_here l P M N _ h) dX12_some_1 jc_X12_136 jn_X12_here rfl rfl rfl (fun _ => rfl) rfl rfl (fun r1 Mz2 Nz3 h => ?_)
  obtain ⟨rfl, rfl, h⟩ := h
  refine j_bipush o (v := 48) dX12_some_4 rfl ?_
  refine j_isub o dX12_some_6 ?_
  refine j_istore_n o [(1, .int (r1 - 48)), (0, .ref (P.1 1))] dX12_some_7 (by decide) rfl ?_
  refine j_aload_n o dX12_some_8 rfl ?_
  refine j_dup o dX12_some_9 rfl ?_
  refine j_getf o (g := 1) (slot := 5) (ci := 12) (v := .int (M 1 5)) rfl jin_X12 (by decide) rfl jf_X12_133 (fun _ => rfl) rfl dX12_some_10 ?_
  refine j_iconst o (v := 1) dX12_some_13 rfl ?_
  refine j_iadd o dX12_some_14 ?_
  refine j_putf o (M1 := upM M 1 5 ((M 1 5) + 1)) (N1 := N) (g := 1) (slot := 5) (ci := 12) (ty := .int) rfl jin_X12 tyX12_ok nmX12 (by decide) rfl rfl jf_X12_133 (by decide +kernel) rfl rfl (Nat.le_of_ble_eq_true rfl) (fun _ => rfl) (fun _ => rfl) (fun _ hj => upM_ne _ _ _ hj) (fun _ _ => rfl) dX12_some_15 ?_
  refine j_aload_n o dX12_some_18 rfl ?_
  refine j_callVi (g := 1) (ci := 12) o (c_X12_here l P (upM M 1 5 ((M 1 5) + 1)) N _ h) dX12_some_19 jc_X12_136 jn_X12_here rfl rfl rfl (fun _ => rfl) rfl rfl (fun r4 Mz5 Nz6 h => ?_)
  obtain ⟨rfl, rfl, h⟩ := h
  refine j_bipush o (v := 35) dX12_some_22 rfl ?_
  refine j_icmp_eq o (tgt := 32) dX12_some_24 (by decide) (fun c7 => ?_) (fun c7 => ?_)
  · replace h := h.1 c7
    refine j_aload_n o dX12_some_32 rfl ?_
    refine j_dup o dX12_some_33 rfl ?_
    refine j_getf o (g := 1) (slot := 5) (ci := 12) (v := .int ((upM M 1 5 ((M 1 5) + 1)) 1 5)) rfl jin_X12 (by decide) rfl jf_X12_133 (fun _ => rfl) rfl dX12_some_34 ?_
    refine j_iconst o (v := 1) dX12_some_37 rfl ?_
    refine j_iadd o dX12_some_38 ?_
    refine j_putf o (M1 := upM (upM M 1 5 ((M 1 5) + 1)) 1 5 (((upM M 1 5 ((M 1 5) + 1)) 1 5) + 1)) (N1 := N) (g := 1) (slot := 5) (ci := 12) (ty := .int) rfl jin_X12 tyX12_ok nmX12 (by decide) rfl rfl jf_X12_133 (by decide +kernel) rfl rfl (Nat.le_of_ble_eq_true rfl) (fun _ => rfl) (fun _ => rfl) (fun _ hj => upM_ne _ _ _ hj) (fun _ _ => rfl) dX12_some_39 ?_
    refine j_nameM (fun M8 hM8 => ?_)
    replace h := h M8 hM8
    refine j_iconst o (v := 0) dX12_some_42 rfl ?_
    refine j_istore_n o [(2, .int 0), (1, .int (r1 - 48)), (0, .ref (P.1 1))] dX12_some_43 (by decide) rfl ?_
    replace h := h (fun (x9 : Int32) (M10 : jM) => J X P M10 N 0 0 E 3 44 [(0, .ref (P.1 1)), (1, .int (r1 - 48)), (2, .int x9)] []) (by
      intro x9 M10 h
      refine j_aload_n o dX12_some_44 rfl ?_
      refine j_aload_n o dX12_some_45 rfl ?_
      refine j_callVi (g := 1) (ci := 12) o (c_X12_look l P M10 N _ h) dX12_some_46 jc_X12_143 jn_X12_look rfl rfl rfl (fun _ => rfl) rfl rfl (fun r11 M12 Nz13 h => ?_)
      obtain ⟨rfl, h⟩ := h
      refine j_callVi (g := 1) (ci := 12) o (c_X12_isFact l P r11 M12 N _ h) dX12_some_49 jc_X12_153 jn_X12_isFact rfl rfl rfl (fun _ => rfl) rfl rfl (fun r14 Mz15 Nz16 h => ?_)
      obtain ⟨rfl, rfl, h⟩ := h
      refine j_if_eq o (tgt := 99) dX12_some_52 (by decide) (fun c17 => ?_) (fun c17 => ?_)
      · replace h := h.1 c17
        refine j_iload_n o dX12_some_99 rfl ?_
        refine j_if_ne o (tgt := 108) dX12_some_100 (by decide) (fun c18 => ?_) (fun c18 => ?_)
        · replace h := h.1 c18
          refine j_iload_n o dX12_some_108 rfl ?_
          refine j_aload_n o dX12_some_109 rfl ?_
          refine j_getf o (g := 1) (slot := 8) (ci := 12) (v := .int (M12 1 8)) rfl jin_X12 (by decide) rfl jf_X12_161 (fun _ => rfl) rfl dX12_some_110 ?_
          refine j_iand o dX12_some_113 ?_
          refine j_callSi o (c_J6_bitCount_0f7a4 l P (x9 &&& (M12 1 8)) M12 N _ h) dX12_some_114 jc_X12_117 jn_J6_bitCount_0f7a4 rfl rfl rfl rfl (fun r19 Mz20 Nz21 h => ?_)
          obtain ⟨rfl, rfl, h⟩ := h
          refine j_iload_n o dX12_some_117 rfl ?_
          refine j_icmp_lt o (tgt := 125) dX12_some_118 (by decide) (fun c22 => ?_) (fun c22 => ?_)
          · replace h := h.1 c22
            refine j_iconst o (v := 0) dX12_some_125 rfl ?_
            rw [hE]
            exact j_zret o rfl dX12_some_126 ⟨_, rfl, rfl, rfl, h⟩
          · replace h := h.2 c22
            refine j_iconst o (v := 1) dX12_some_121 rfl ?_
            refine j_goto o (tgt := 126) dX12_some_122 (by decide) ?_
            rw [hE]
            exact j_zret o rfl dX12_some_126 ⟨_, rfl, rfl, rfl, h⟩
        · replace h := h.2 c18
          refine j_aload_n o dX12_some_103 rfl ?_
          refine j_callVi (g := 1) (ci := 12) o (c_X12_fails l P M12 N _ h) dX12_some_104 jc_X12_146 jn_X12_fails rfl rfl rfl (fun _ => rfl) rfl rfl (fun r23 M24 Nz25 h => ?_)
          obtain ⟨rfl, h⟩ := h
          obtain ⟨hz26, h⟩ := h
          rw [hE]
          exact j_zret o hz26.1 dX12_some_107 ⟨_, rfl, rfl, rfl, h⟩
      · replace h := h.2 c17
        refine j_iload_n o dX12_some_55 rfl ?_
        refine j_aload_n o dX12_some_56 rfl ?_
        refine j_callVi (g := 1) (ci := 12) o (c_X12_here l P M12 N _ h) dX12_some_57 jc_X12_136 jn_X12_here rfl rfl rfl (fun _ => rfl) rfl rfl (fun r27 Mz28 Nz29 h => ?_)
        obtain ⟨rfl, rfl, h⟩ := h
        refine j_bipush o (v := 97) dX12_some_60 rfl ?_
        refine j_isub o dX12_some_62 ?_
        refine j_callSi o (c_X12_has l P x9 (r27 - 97) M12 N _ h) dX12_some_63 jc_X12_157 jn_X12_has rfl rfl rfl rfl (fun r30 Mz31 Nz32 h => ?_)
        obtain ⟨rfl, rfl, h⟩ := h
        refine j_if_eq o (tgt := 74) dX12_some_66 (by decide) (fun c33 => ?_) (fun c33 => ?_)
        · replace h := h.1 c33
          refine j_iload_n o dX12_some_74 rfl ?_
          refine j_iconst o (v := 1) dX12_some_75 rfl ?_
          refine j_aload_n o dX12_some_76 rfl ?_
          refine j_callVi (g := 1) (ci := 12) o (c_X12_here l P M12 N _ h) dX12_some_77 jc_X12_136 jn_X12_here rfl rfl rfl (fun _ => rfl) rfl rfl (fun r34 Mz35 Nz36 h => ?_)
          obtain ⟨rfl, rfl, h⟩ := h
          refine j_bipush o (v := 97) dX12_some_80 rfl ?_
          refine j_isub o dX12_some_82 ?_
          refine j_ishl o dX12_some_83 ?_
          refine j_ior o dX12_some_84 ?_
          refine j_istore_n o [(2, .int (x9 ||| ((1 : Int32) <<< ((r34 - 97) &&& 31)))), (0, .ref (P.1 1)), (1, .int (r1 - 48))] dX12_some_85 (by decide) rfl ?_
          refine j_aload_n o dX12_some_86 rfl ?_
          refine j_dup o dX12_some_87 rfl ?_
          refine j_getf o (g := 1) (slot := 5) (ci := 12) (v := .int (M12 1 5)) rfl jin_X12 (by decide) rfl jf_X12_133 (fun _ => rfl) rfl dX12_some_88 ?_
          refine j_iconst o (v := 1) dX12_some_91 rfl ?_
          refine j_iadd o dX12_some_92 ?_
          refine j_putf o (M1 := upM M12 1 5 ((M12 1 5) + 1)) (N1 := N) (g := 1) (slot := 5) (ci := 12) (ty := .int) rfl jin_X12 tyX12_ok nmX12 (by decide) rfl rfl jf_X12_133 (by decide +kernel) rfl rfl (Nat.le_of_ble_eq_true rfl) (fun _ => rfl) (fun _ => rfl) (fun _ hj => upM_ne _ _ _ hj) (fun _ _ => rfl) dX12_some_93 ?_
          refine j_goto o (tgt := 44) dX12_some_96 (by decide) ?_
          exact j_pick [1, 2, 0] rfl h
        · replace h := h.2 c33
          refine j_aload_n o dX12_some_69 rfl ?_
          refine j_callVi (g := 1) (ci := 12) o (c_X12_fails l P M12 N _ h) dX12_some_70 jc_X12_146 jn_X12_fails rfl rfl rfl (fun _ => rfl) rfl rfl (fun r37 M38 Nz39 h => ?_)
          obtain ⟨rfl, h⟩ := h
          obtain ⟨hz40, h⟩ := h
          rw [hE]
          exact j_zret o hz40.1 dX12_some_73 ⟨_, rfl, rfl, rfl, h⟩)
    exact j_pick [2, 1, 0] rfl h
  · replace h := h.2 c7
    refine j_aload_n o dX12_some_27 rfl ?_
    refine j_callVi (g := 1) (ci := 12) o (c_X12_fails l P (upM M 1 5 ((M 1 5) + 1)) N _ h) dX12_some_28 jc_X12_146 jn_X12_fails rfl rfl rfl (fun _ => rfl) rfl rfl (fun r41 M42 Nz43 h => ?_)
    obtain ⟨rfl, h⟩ := h
    obtain ⟨hz44, h⟩ := h
    rw [hE]
    exact j_zret o hz44.1 dX12_some_31 ⟨_, rfl, rfl, rfl, h⟩

abbrev rr_X12_condition (d : Nat) : Room := { frames := 3 + d, cells := 0, slots := 0, locals := 62 + d * 22 }
def wb_X12_condition (r : (jP → jM → (Int32 → jM → Prop) → Prop) × (jP → jM → (Int32 → jM → Prop) → Prop) × (jP → jM → (Int32 → jM → Prop) → Prop)) (P : jP)  (M : jM) (Q : Int32 → jM → Prop) : Prop :=
  r.2.1 P M (fun r1 M2 =>
  ∀ R5 : Int32 → jM → Prop, (∀ (x4 : Int32) (M5 : jM), (
   (¬ (M5 1 6) = (-1) → (
    jb x4 ∧
    Q x4 M5
   )) ∧ ((M5 1 6) = (-1) → (
    w_X12_look P M5 (fun r8 M9 =>
    (¬ r8 = 124 → (
     jb x4 ∧
     Q x4 M9
    )) ∧ (r8 = 124 → (
     r.2.1 P (upM M9 1 5 ((M9 1 5) + 1)) (fun r13 M14 =>
     ∀ R50 : Int32 → Prop, (∀ (x16 : Int32), (
      R5 x16 M14
     ) → R50 x16) →
     (¬ x4 = 0 → (
      R50 1
     )) ∧ (x4 = 0 → (
      (r13 = 0 → (
       R50 0
      )) ∧ (¬ r13 = 0 → (
       R50 1
      ))
     )))
    )))
   ))
  ) → R5 x4 M5) →
  R5 r1 M2)
def wb_X12_part (r : (jP → jM → (Int32 → jM → Prop) → Prop) × (jP → jM → (Int32 → jM → Prop) → Prop) × (jP → jM → (Int32 → jM → Prop) → Prop)) (P : jP)  (M : jM) (Q : Int32 → jM → Prop) : Prop :=
  r.2.2 P M (fun r1 M2 =>
  ∀ R5 : Int32 → jM → Prop, (∀ (x4 : Int32) (M5 : jM), (
   (¬ (M5 1 6) = (-1) → (
    jb x4 ∧
    Q x4 M5
   )) ∧ ((M5 1 6) = (-1) → (
    w_X12_look P M5 (fun r8 M9 =>
    (¬ r8 = 38 → (
     jb x4 ∧
     Q x4 M9
    )) ∧ (r8 = 38 → (
     r.2.2 P (upM M9 1 5 ((M9 1 5) + 1)) (fun r13 M14 =>
     ∀ R50 : Int32 → Prop, (∀ (x16 : Int32), (
      R5 x16 M14
     ) → R50 x16) →
     (x4 = 0 → (
      R50 0
     )) ∧ (¬ x4 = 0 → (
      (r13 = 0 → (
       R50 0
      )) ∧ (¬ r13 = 0 → (
       R50 1
      ))
     )))
    )))
   ))
  ) → R5 x4 M5) →
  R5 r1 M2)
def wb_X12_unit (r : (jP → jM → (Int32 → jM → Prop) → Prop) × (jP → jM → (Int32 → jM → Prop) → Prop) × (jP → jM → (Int32 → jM → Prop) → Prop)) (P : jP)  (M : jM) (Q : Int32 → jM → Prop) : Prop :=
  w_X12_look P M (fun r1 M2 =>
  (¬ r1 = 33 → (
   (¬ r1 = 40 → (
    w_X12_isFact P r1 M2 (fun r6 =>
    (r6 = 0 → (
     ∀ R135 : Prop, ((
      w_X12_fails P M2 (fun r10 M11 =>
      jb r10 ∧
      Q r10 M11)
     ) → R135) →
     (r1 < 49 → (
      R135
     )) ∧ (¬ r1 < 49 → (
      (57 < r1 → (
       R135
      )) ∧ (¬ 57 < r1 → (
       w_X12_some P M2 (fun r16 M17 =>
       jb r16 ∧
       Q r16 M17)
      ))
     ))
    )) ∧ (¬ r6 = 0 → (
     w_X12_has P ((upM M2 1 5 ((M2 1 5) + 1)) 1 8) (r1 - 97) (fun r20 =>
     jb r20 ∧
     Q r20 (upM M2 1 5 ((M2 1 5) + 1)))
    )))
   )) ∧ (r1 = 40 → (
    w_X12_goesIn P M2 (fun r24 M25 =>
    (¬ r24 = 0 → (
     r.1 P M25 (fun r28 M29 =>
     w_X12_takes P 41 M29 (fun r31 M32 =>
     (¬ r31 = 0 → (
      jb r28 ∧
      Q r28 (upM M32 1 7 ((M32 1 7) - 1))
     )) ∧ (r31 = 0 → (
      Q 0 M32
     ))))
    )) ∧ (r24 = 0 → (
     Q 0 M25
    )))
   ))
  )) ∧ (r1 = 33 → (
   w_X12_goesIn P M2 (fun r36 M37 =>
   (¬ r36 = 0 → (
    r.2.2 P M37 (fun r40 M41 =>
    (¬ r40 = 0 → (
     Q 0 (upM M41 1 7 ((M41 1 7) - 1))
    )) ∧ (r40 = 0 → (
     Q 1 (upM M41 1 7 ((M41 1 7) - 1))
    )))
   )) ∧ (r36 = 0 → (
    Q 0 M37
   )))
  )))
def wr_X12_condition : Nat → (jP → jM → (Int32 → jM → Prop) → Prop) × (jP → jM → (Int32 → jM → Prop) → Prop) × (jP → jM → (Int32 → jM → Prop) → Prop)
  | 0 => (fun _ _ _ => False, fun _ _ _ => False, fun _ _ _ => False)
  | d + 1 => (wb_X12_condition (wr_X12_condition d), wb_X12_part (wr_X12_condition d), wb_X12_unit (wr_X12_condition d))
abbrev ih_X12_condition (l : Launch) (d : Nat) : Prop := (∀ (P : jP)  (M : jM) (N : jN) (Q : Int32 → jM → Prop), (wr_X12_condition d).1 P M Q → jC l yX12_condition cX12_condition 3 (some .boolean) (rr_X12_condition d) LM [.ref (P.1 1)] P M N (jqi P (fun r M' N' => N = N' ∧ Q r M' ))) ∧ (∀ (P : jP)  (M : jM) (N : jN) (Q : Int32 → jM → Prop), (wr_X12_condition d).2.1 P M Q → jC l yX12_part cX12_part 3 (some .boolean) (rr_X12_condition d) LM [.ref (P.1 1)] P M N (jqi P (fun r M' N' => N = N' ∧ Q r M' ))) ∧ (∀ (P : jP)  (M : jM) (N : jN) (Q : Int32 → jM → Prop), (wr_X12_condition d).2.2 P M Q → jC l yX12_unit cX12_unit 3 (some .boolean) (rr_X12_condition d) LM [.ref (P.1 1)] P M N (jqi P (fun r M' N' => N = N' ∧ Q r M' )))
set_option maxRecDepth 20000 in
theorem cr_X12_condition (l : Launch) (d : Nat) (ih : ih_X12_condition l d) : ∀ (P : jP)  (M : jM) (N : jN) (Q : Int32 → jM → Prop), (wr_X12_condition (d + 1)).1 P M Q → jC l yX12_condition cX12_condition 3 (some .boolean) (rr_X12_condition (d + 1)) LM [.ref (P.1 1)] P M N (jqi P (fun r M' N' => N = N' ∧ Q r M' )) := by
  intro P M N Q h
  have h : wb_X12_condition (wr_X12_condition d) P M Q := h
  refine jC_of (by decide +kernel) [(0, .ref (P.1 1))] (Nat.le_of_ble_eq_true rfl) rfl (fun X o => ?_)
  obtain ⟨E, hE⟩ : ∃ E, E = jE X (rr_X12_condition (d + 1)) (jqi P (fun r M' N' => N = N' ∧ Q r M' )) := ⟨_, rfl⟩
  rw [← hE]
  unfold wb_X12_condition at h
  refine j_aload_n o dX12_condition_0 rfl ?_
  refine j_callVi (g := 1) (ci := 12) o (ih.2.1 P M N _ h) dX12_condition_1 jc_X12_179 jn_X12_part rfl (jRmb_mk rfl rfl (by dsimp only [rr_X12_condition, rr_X12_condition]; omega) (by dsimp only [rr_X12_condition, rr_X12_condition]; omega)) rfl (fun _ => rfl) rfl rfl (fun r1 M2 Nz3 h => ?_)
  obtain ⟨rfl, h⟩ := h
  refine j_istore_n o [(1, .int r1), (0, .ref (P.1 1))] dX12_condition_4 (by decide) rfl ?_
  replace h := h (fun (x4 : Int32) (M5 : jM) => J X P M5 N 0 0 E 3 5 [(0, .ref (P.1 1)), (1, .int x4)] []) (by
    intro x4 M5 h
    refine j_aload_n o dX12_condition_5 rfl ?_
    refine j_getf o (g := 1) (slot := 6) (ci := 12) (v := .int (M5 1 6)) rfl jin_X12 (by decide) rfl jf_X12_140 (fun _ => rfl) rfl dX12_condition_6 ?_
    refine j_iconst o (v := (-1)) dX12_condition_9 rfl ?_
    refine j_icmp_ne o (tgt := 54) dX12_condition_10 (by decide) (fun c6 => ?_) (fun c6 => ?_)
    · replace h := h.1 c6
      refine j_iload_n o dX12_condition_54 rfl ?_
      obtain ⟨hz7, h⟩ := h
      rw [hE]
      exact j_zret o hz7.1 dX12_condition_55 ⟨_, rfl, rfl, rfl, h⟩
    · replace h := h.2 c6
      refine j_aload_n o dX12_condition_13 rfl ?_
      refine j_callVi (g := 1) (ci := 12) o (c_X12_look l P M5 N _ h) dX12_condition_14 jc_X12_143 jn_X12_look rfl (jRmb_mk rfl rfl (by dsimp only [rr_X12_condition, rm_X12_look]; omega) (by dsimp only [rr_X12_condition, rm_X12_look]; omega)) rfl (fun _ => rfl) rfl rfl (fun r8 M9 Nz10 h => ?_)
      obtain ⟨rfl, h⟩ := h
      refine j_bipush o (v := 124) dX12_condition_17 rfl ?_
      refine j_icmp_ne o (tgt := 54) dX12_condition_19 (by decide) (fun c11 => ?_) (fun c11 => ?_)
      · replace h := h.1 c11
        refine j_iload_n o dX12_condition_54 rfl ?_
        obtain ⟨hz12, h⟩ := h
        rw [hE]
        exact j_zret o hz12.1 dX12_condition_55 ⟨_, rfl, rfl, rfl, h⟩
      · replace h := h.2 c11
        refine j_aload_n o dX12_condition_22 rfl ?_
        refine j_dup o dX12_condition_23 rfl ?_
        refine j_getf o (g := 1) (slot := 5) (ci := 12) (v := .int (M9 1 5)) rfl jin_X12 (by decide) rfl jf_X12_133 (fun _ => rfl) rfl dX12_condition_24 ?_
        refine j_iconst o (v := 1) dX12_condition_27 rfl ?_
        refine j_iadd o dX12_condition_28 ?_
        refine j_putf o (M1 := upM M9 1 5 ((M9 1 5) + 1)) (N1 := N) (g := 1) (slot := 5) (ci := 12) (ty := .int) rfl jin_X12 tyX12_ok nmX12 (by decide) rfl rfl jf_X12_133 (by decide +kernel) rfl rfl (Nat.le_of_ble_eq_true rfl) (fun _ => rfl) (fun _ => rfl) (fun _ hj => upM_ne _ _ _ hj) (fun _ _ => rfl) dX12_condition_29 ?_
        refine j_aload_n o dX12_condition_32 rfl ?_
        refine j_callVi (g := 1) (ci := 12) o (ih.2.1 P (upM M9 1 5 ((M9 1 5) + 1)) N _ h) dX12_condition_33 jc_X12_179 jn_X12_part rfl (jRmb_mk rfl rfl (by dsimp only [rr_X12_condition, rr_X12_condition]; omega) (by dsimp only [rr_X12_condition, rr_X12_condition]; omega)) rfl (fun _ => rfl) rfl rfl (fun r13 M14 Nz15 h => ?_)
        obtain ⟨rfl, h⟩ := h
        refine j_istore_n o [(2, .int r13), (0, .ref (P.1 1)), (1, .int x4)] dX12_condition_36 (by decide) rfl ?_
        refine j_iload_n o dX12_condition_37 rfl ?_
        replace h := h (fun (x16 : Int32) => J X P M14 N 0 0 E 3 50 [(0, .ref (P.1 1))] [.int x16]) (by
          intro x16 h
          refine j_istore_n o [(1, .int x16), (0, .ref (P.1 1))] dX12_condition_50 (by decide) rfl ?_
          refine j_goto o (tgt := 5) dX12_condition_51 (by decide) ?_
          exact j_pick [1, 0] rfl h)
        refine j_if_ne o (tgt := 45) dX12_condition_38 (by decide) (fun c17 => ?_) (fun c17 => ?_)
        · replace h := h.1 c17
          refine j_iconst o (v := 1) dX12_condition_45 rfl ?_
          refine j_goto o (tgt := 50) dX12_condition_46 (by decide) ?_
          exact j_pick [1] rfl h
        · replace h := h.2 c17
          refine j_iload_n o dX12_condition_41 rfl ?_
          refine j_if_eq o (tgt := 49) dX12_condition_42 (by decide) (fun c18 => ?_) (fun c18 => ?_)
          · replace h := h.1 c18
            refine j_iconst o (v := 0) dX12_condition_49 rfl ?_
            exact j_pick [1] rfl h
          · replace h := h.2 c18
            refine j_iconst o (v := 1) dX12_condition_45 rfl ?_
            refine j_goto o (tgt := 50) dX12_condition_46 (by decide) ?_
            exact j_pick [1] rfl h)
  exact j_pick [1, 0] rfl h
set_option maxRecDepth 20000 in
theorem cr_X12_part (l : Launch) (d : Nat) (ih : ih_X12_condition l d) : ∀ (P : jP)  (M : jM) (N : jN) (Q : Int32 → jM → Prop), (wr_X12_condition (d + 1)).2.1 P M Q → jC l yX12_part cX12_part 3 (some .boolean) (rr_X12_condition (d + 1)) LM [.ref (P.1 1)] P M N (jqi P (fun r M' N' => N = N' ∧ Q r M' )) := by
  intro P M N Q h
  have h : wb_X12_part (wr_X12_condition d) P M Q := h
  refine jC_of (by decide +kernel) [(0, .ref (P.1 1))] (Nat.le_of_ble_eq_true rfl) rfl (fun X o => ?_)
  obtain ⟨E, hE⟩ : ∃ E, E = jE X (rr_X12_condition (d + 1)) (jqi P (fun r M' N' => N = N' ∧ Q r M' )) := ⟨_, rfl⟩
  rw [← hE]
  unfold wb_X12_part at h
  refine j_aload_n o dX12_part_0 rfl ?_
  refine j_callVi (g := 1) (ci := 12) o (ih.2.2 P M N _ h) dX12_part_1 jc_X12_167 jn_X12_unit rfl (jRmb_mk rfl rfl (by dsimp only [rr_X12_condition, rr_X12_condition]; omega) (by dsimp only [rr_X12_condition, rr_X12_condition]; omega)) rfl (fun _ => rfl) rfl rfl (fun r1 M2 Nz3 h => ?_)
  obtain ⟨rfl, h⟩ := h
  refine j_istore_n o [(1, .int r1), (0, .ref (P.1 1))] dX12_part_4 (by decide) rfl ?_
  replace h := h (fun (x4 : Int32) (M5 : jM) => J X P M5 N 0 0 E 3 5 [(0, .ref (P.1 1)), (1, .int x4)] []) (by
    intro x4 M5 h
    refine j_aload_n o dX12_part_5 rfl ?_
    refine j_getf o (g := 1) (slot := 6) (ci := 12) (v := .int (M5 1 6)) rfl jin_X12 (by decide) rfl jf_X12_140 (fun _ => rfl) rfl dX12_part_6 ?_
    refine j_iconst o (v := (-1)) dX12_part_9 rfl ?_
    refine j_icmp_ne o (tgt := 54) dX12_part_10 (by decide) (fun c6 => ?_) (fun c6 => ?_)
    · replace h := h.1 c6
      refine j_iload_n o dX12_part_54 rfl ?_
      obtain ⟨hz7, h⟩ := h
      rw [hE]
      exact j_zret o hz7.1 dX12_part_55 ⟨_, rfl, rfl, rfl, h⟩
    · replace h := h.2 c6
      refine j_aload_n o dX12_part_13 rfl ?_
      refine j_callVi (g := 1) (ci := 12) o (c_X12_look l P M5 N _ h) dX12_part_14 jc_X12_143 jn_X12_look rfl (jRmb_mk rfl rfl (by dsimp only [rr_X12_condition, rm_X12_look]; omega) (by dsimp only [rr_X12_condition, rm_X12_look]; omega)) rfl (fun _ => rfl) rfl rfl (fun r8 M9 Nz10 h => ?_)
      obtain ⟨rfl, h⟩ := h
      refine j_bipush o (v := 38) dX12_part_17 rfl ?_
      refine j_icmp_ne o (tgt := 54) dX12_part_19 (by decide) (fun c11 => ?_) (fun c11 => ?_)
      · replace h := h.1 c11
        refine j_iload_n o dX12_part_54 rfl ?_
        obtain ⟨hz12, h⟩ := h
        rw [hE]
        exact j_zret o hz12.1 dX12_part_55 ⟨_, rfl, rfl, rfl, h⟩
      · replace h := h.2 c11
        refine j_aload_n o dX12_part_22 rfl ?_
        refine j_dup o dX12_part_23 rfl ?_
        refine j_getf o (g := 1) (slot := 5) (ci := 12) (v := .int (M9 1 5)) rfl jin_X12 (by decide) rfl jf_X12_133 (fun _ => rfl) rfl dX12_part_24 ?_
        refine j_iconst o (v := 1) dX12_part_27 rfl ?_
        refine j_iadd o dX12_part_28 ?_
        refine j_putf o (M1 := upM M9 1 5 ((M9 1 5) + 1)) (N1 := N) (g := 1) (slot := 5) (ci := 12) (ty := .int) rfl jin_X12 tyX12_ok nmX12 (by decide) rfl rfl jf_X12_133 (by decide +kernel) rfl rfl (Nat.le_of_ble_eq_true rfl) (fun _ => rfl) (fun _ => rfl) (fun _ hj => upM_ne _ _ _ hj) (fun _ _ => rfl) dX12_part_29 ?_
        refine j_aload_n o dX12_part_32 rfl ?_
        refine j_callVi (g := 1) (ci := 12) o (ih.2.2 P (upM M9 1 5 ((M9 1 5) + 1)) N _ h) dX12_part_33 jc_X12_167 jn_X12_unit rfl (jRmb_mk rfl rfl (by dsimp only [rr_X12_condition, rr_X12_condition]; omega) (by dsimp only [rr_X12_condition, rr_X12_condition]; omega)) rfl (fun _ => rfl) rfl rfl (fun r13 M14 Nz15 h => ?_)
        obtain ⟨rfl, h⟩ := h
        refine j_istore_n o [(2, .int r13), (0, .ref (P.1 1)), (1, .int x4)] dX12_part_36 (by decide) rfl ?_
        refine j_iload_n o dX12_part_37 rfl ?_
        replace h := h (fun (x16 : Int32) => J X P M14 N 0 0 E 3 50 [(0, .ref (P.1 1))] [.int x16]) (by
          intro x16 h
          refine j_istore_n o [(1, .int x16), (0, .ref (P.1 1))] dX12_part_50 (by decide) rfl ?_
          refine j_goto o (tgt := 5) dX12_part_51 (by decide) ?_
          exact j_pick [1, 0] rfl h)
        refine j_if_eq o (tgt := 49) dX12_part_38 (by decide) (fun c17 => ?_) (fun c17 => ?_)
        · replace h := h.1 c17
          refine j_iconst o (v := 0) dX12_part_49 rfl ?_
          exact j_pick [1] rfl h
        · replace h := h.2 c17
          refine j_iload_n o dX12_part_41 rfl ?_
          refine j_if_eq o (tgt := 49) dX12_part_42 (by decide) (fun c18 => ?_) (fun c18 => ?_)
          · replace h := h.1 c18
            refine j_iconst o (v := 0) dX12_part_49 rfl ?_
            exact j_pick [1] rfl h
          · replace h := h.2 c18
            refine j_iconst o (v := 1) dX12_part_45 rfl ?_
            refine j_goto o (tgt := 50) dX12_part_46 (by decide) ?_
            exact j_pick [1] rfl h)
  exact j_pick [1, 0] rfl h
set_option maxRecDepth 20000 in
theorem cr_X12_unit (l : Launch) (d : Nat) (ih : ih_X12_condition l d) : ∀ (P : jP)  (M : jM) (N : jN) (Q : Int32 → jM → Prop), (wr_X12_condition (d + 1)).2.2 P M Q → jC l yX12_unit cX12_unit 3 (some .boolean) (rr_X12_condition (d + 1)) LM [.ref (P.1 1)] P M N (jqi P (fun r M' N' => N = N' ∧ Q r M' )) := by
  intro P M N Q h
  have h : wb_X12_unit (wr_X12_condition d) P M Q := h
  refine jC_of (by decide +kernel) [(0, .ref (P.1 1))] (Nat.le_of_ble_eq_true rfl) rfl (fun X o => ?_)
  obtain ⟨E, hE⟩ : ∃ E, E = jE X (rr_X12_condition (d + 1)) (jqi P (fun r M' N' => N = N' ∧ Q r M' )) := ⟨_, rfl⟩
  rw [← hE]
  unfold wb_X12_unit at h
  refine j_aload_n o dX12_unit_0 rfl ?_
  refine j_callVi (g := 1) (ci := 12) o (c_X12_look l P M N _ h) dX12_unit_1 jc_X12_143 jn_X12_look rfl (jRmb_mk rfl rfl (by dsimp only [rr_X12_condition, rm_X12_look]; omega) (by dsimp only [rr_X12_condition, rm_X12_look]; omega)) rfl (fun _ => rfl) rfl rfl (fun r1 M2 Nz3 h => ?_)
  obtain ⟨rfl, h⟩ := h
  refine j_istore_n o [(1, .int r1), (0, .ref (P.1 1))] dX12_unit_4 (by decide) rfl ?_
  refine j_iload_n o dX12_unit_5 rfl ?_
  refine j_bipush o (v := 33) dX12_unit_6 rfl ?_
  refine j_icmp_ne o (tgt := 45) dX12_unit_8 (by decide) (fun c4 => ?_) (fun c4 => ?_)
  · replace h := h.1 c4
    refine j_iload_n o dX12_unit_45 rfl ?_
    refine j_bipush o (v := 40) dX12_unit_46 rfl ?_
    refine j_icmp_ne o (tgt := 88) dX12_unit_48 (by decide) (fun c5 => ?_) (fun c5 => ?_)
    · replace h := h.1 c5
      refine j_aload_n o dX12_unit_88 rfl ?_
      refine j_iload_n o dX12_unit_89 rfl ?_
      refine j_callVi (g := 1) (ci := 12) o (c_X12_isFact l P r1 M2 N _ h) dX12_unit_90 jc_X12_153 jn_X12_isFact rfl (jRmb_mk rfl rfl (by dsimp only [rr_X12_condition, rm_X12_isFact]; omega) (by dsimp only [rr_X12_condition, rm_X12_isFact]; omega)) rfl (fun _ => rfl) rfl rfl (fun r6 Mz7 Nz8 h => ?_)
      obtain ⟨rfl, rfl, h⟩ := h
      refine j_if_eq o (tgt := 118) dX12_unit_93 (by decide) (fun c9 => ?_) (fun c9 => ?_)
      · replace h := h.1 c9
        refine j_iload_n o dX12_unit_118 rfl ?_
        refine j_bipush o (v := 49) dX12_unit_119 rfl ?_
        replace h := h (J X P M2 N 0 0 E 3 135 [(0, .ref (P.1 1))] []) (by
          intro h
          refine j_aload_n o dX12_unit_135 rfl ?_
          refine j_callVi (g := 1) (ci := 12) o (c_X12_fails l P M2 N _ h) dX12_unit_136 jc_X12_146 jn_X12_fails rfl (jRmb_mk rfl rfl (by dsimp only [rr_X12_condition, rm_X12_fails]; omega) (by dsimp only [rr_X12_condition, rm_X12_fails]; omega)) rfl (fun _ => rfl) rfl rfl (fun r10 M11 Nz12 h => ?_)
          obtain ⟨rfl, h⟩ := h
          obtain ⟨hz13, h⟩ := h
          rw [hE]
          exact j_zret o hz13.1 dX12_unit_139 ⟨_, rfl, rfl, rfl, h⟩)
        refine j_icmp_lt o (tgt := 135) dX12_unit_121 (by decide) (fun c14 => ?_) (fun c14 => ?_)
        · replace h := h.1 c14
          exact j_pick [1] rfl h
        · replace h := h.2 c14
          refine j_iload_n o dX12_unit_124 rfl ?_
          refine j_bipush o (v := 57) dX12_unit_125 rfl ?_
          refine j_icmp_gt o (tgt := 135) dX12_unit_127 (by decide) (fun c15 => ?_) (fun c15 => ?_)
          · replace h := h.1 c15
            exact j_pick [1] rfl h
          · replace h := h.2 c15
            refine j_aload_n o dX12_unit_130 rfl ?_
            refine j_callVi (g := 1) (ci := 12) o (c_X12_some l P M2 N _ h) dX12_unit_131 jc_X12_176 jn_X12_some rfl (jRmb_mk rfl rfl (by dsimp only [rr_X12_condition, rm_X12_some]; omega) (by dsimp only [rr_X12_condition, rm_X12_some]; omega)) rfl (fun _ => rfl) rfl rfl (fun r16 M17 Nz18 h => ?_)
            obtain ⟨rfl, h⟩ := h
            obtain ⟨hz19, h⟩ := h
            rw [hE]
            exact j_zret o hz19.1 dX12_unit_134 ⟨_, rfl, rfl, rfl, h⟩
      · replace h := h.2 c9
        refine j_aload_n o dX12_unit_96 rfl ?_
        refine j_dup o dX12_unit_97 rfl ?_
        refine j_getf o (g := 1) (slot := 5) (ci := 12) (v := .int (M2 1 5)) rfl jin_X12 (by decide) rfl jf_X12_133 (fun _ => rfl) rfl dX12_unit_98 ?_
        refine j_iconst o (v := 1) dX12_unit_101 rfl ?_
        refine j_iadd o dX12_unit_102 ?_
        refine j_putf o (M1 := upM M2 1 5 ((M2 1 5) + 1)) (N1 := N) (g := 1) (slot := 5) (ci := 12) (ty := .int) rfl jin_X12 tyX12_ok nmX12 (by decide) rfl rfl jf_X12_133 (by decide +kernel) rfl rfl (Nat.le_of_ble_eq_true rfl) (fun _ => rfl) (fun _ => rfl) (fun _ hj => upM_ne _ _ _ hj) (fun _ _ => rfl) dX12_unit_103 ?_
        refine j_aload_n o dX12_unit_106 rfl ?_
        refine j_getf o (g := 1) (slot := 8) (ci := 12) (v := .int ((upM M2 1 5 ((M2 1 5) + 1)) 1 8)) rfl jin_X12 (by decide) rfl jf_X12_161 (fun _ => rfl) rfl dX12_unit_107 ?_
        refine j_iload_n o dX12_unit_110 rfl ?_
        refine j_bipush o (v := 97) dX12_unit_111 rfl ?_
        refine j_isub o dX12_unit_113 ?_
        refine j_callSi o (c_X12_has l P ((upM M2 1 5 ((M2 1 5) + 1)) 1 8) (r1 - 97) (upM M2 1 5 ((M2 1 5) + 1)) N _ h) dX12_unit_114 jc_X12_157 jn_X12_has rfl (jRmb_mk rfl rfl (by dsimp only [rr_X12_condition, rm_X12_has]; omega) (by dsimp only [rr_X12_condition, rm_X12_has]; omega)) rfl rfl (fun r20 Mz21 Nz22 h => ?_)
        obtain ⟨rfl, rfl, h⟩ := h
        obtain ⟨hz23, h⟩ := h
        rw [hE]
        exact j_zret o hz23.1 dX12_unit_117 ⟨_, rfl, rfl, rfl, h⟩
    · replace h := h.2 c5
      refine j_aload_n o dX12_unit_51 rfl ?_
      refine j_callVi (g := 1) (ci := 12) o (c_X12_goesIn l P M2 N _ h) dX12_unit_52 jc_X12_164 jn_X12_goesIn rfl (jRmb_mk rfl rfl (by dsimp only [rr_X12_condition, rm_X12_goesIn]; omega) (by dsimp only [rr_X12_condition, rm_X12_goesIn]; omega)) rfl (fun _ => rfl) rfl rfl (fun r24 M25 Nz26 h => ?_)
      obtain ⟨rfl, h⟩ := h
      refine j_if_ne o (tgt := 60) dX12_unit_55 (by decide) (fun c27 => ?_) (fun c27 => ?_)
      · replace h := h.1 c27
        refine j_aload_n o dX12_unit_60 rfl ?_
        refine j_callVi (g := 1) (ci := 12) o (ih.1 P M25 N _ h) dX12_unit_61 jc_X12_170 jn_X12_condition rfl (jRmb_mk rfl rfl (by dsimp only [rr_X12_condition, rr_X12_condition]; omega) (by dsimp only [rr_X12_condition, rr_X12_condition]; omega)) rfl (fun _ => rfl) rfl rfl (fun r28 M29 Nz30 h => ?_)
        obtain ⟨rfl, h⟩ := h
        refine j_istore_n o [(2, .int r28), (1, .int r1), (0, .ref (P.1 1))] dX12_unit_64 (by decide) rfl ?_
        refine j_aload_n o dX12_unit_65 rfl ?_
        refine j_bipush o (v := 41) dX12_unit_66 rfl ?_
        refine j_callVi (g := 1) (ci := 12) o (c_X12_takes l P 41 M29 N _ h) dX12_unit_68 jc_X12_173 jn_X12_takes rfl (jRmb_mk rfl rfl (by dsimp only [rr_X12_condition, rm_X12_takes]; omega) (by dsimp only [rr_X12_condition, rm_X12_takes]; omega)) rfl (fun _ => rfl) rfl rfl (fun r31 M32 Nz33 h => ?_)
        obtain ⟨rfl, h⟩ := h
        refine j_if_ne o (tgt := 76) dX12_unit_71 (by decide) (fun c34 => ?_) (fun c34 => ?_)
        · replace h := h.1 c34
          refine j_aload_n o dX12_unit_76 rfl ?_
          refine j_dup o dX12_unit_77 rfl ?_
          refine j_getf o (g := 1) (slot := 7) (ci := 12) (v := .int (M32 1 7)) rfl jin_X12 (by decide) rfl jf_X12_150 (fun _ => rfl) rfl dX12_unit_78 ?_
          refine j_iconst o (v := 1) dX12_unit_81 rfl ?_
          refine j_isub o dX12_unit_82 ?_
          refine j_putf o (M1 := upM M32 1 7 ((M32 1 7) - 1)) (N1 := N) (g := 1) (slot := 7) (ci := 12) (ty := .int) rfl jin_X12 tyX12_ok nmX12 (by decide) rfl rfl jf_X12_150 (by decide +kernel) rfl rfl (Nat.le_of_ble_eq_true rfl) (fun _ => rfl) (fun _ => rfl) (fun _ hj => upM_ne _ _ _ hj) (fun _ _ => rfl) dX12_unit_83 ?_
          refine j_iload_n o dX12_unit_86 rfl ?_
          obtain ⟨hz35, h⟩ := h
          rw [hE]
          exact j_zret o hz35.1 dX12_unit_87 ⟨_, rfl, rfl, rfl, h⟩
        · replace h := h.2 c34
          refine j_iconst o (v := 0) dX12_unit_74 rfl ?_
          rw [hE]
          exact j_zret o rfl dX12_unit_75 ⟨_, rfl, rfl, rfl, h⟩
      · replace h := h.2 c27
        refine j_iconst o (v := 0) dX12_unit_58 rfl ?_
        rw [hE]
        exact j_zret o rfl dX12_unit_59 ⟨_, rfl, rfl, rfl, h⟩
  · replace h := h.2 c4
    refine j_aload_n o dX12_unit_11 rfl ?_
    refine j_callVi (g := 1) (ci := 12) o (c_X12_goesIn l P M2 N _ h) dX12_unit_12 jc_X12_164 jn_X12_goesIn rfl (jRmb_mk rfl rfl (by dsimp only [rr_X12_condition, rm_X12_goesIn]; omega) (by dsimp only [rr_X12_condition, rm_X12_goesIn]; omega)) rfl (fun _ => rfl) rfl rfl (fun r36 M37 Nz38 h => ?_)
    obtain ⟨rfl, h⟩ := h
    refine j_if_ne o (tgt := 20) dX12_unit_15 (by decide) (fun c39 => ?_) (fun c39 => ?_)
    · replace h := h.1 c39
      refine j_aload_n o dX12_unit_20 rfl ?_
      refine j_callVi (g := 1) (ci := 12) o (ih.2.2 P M37 N _ h) dX12_unit_21 jc_X12_167 jn_X12_unit rfl (jRmb_mk rfl rfl (by dsimp only [rr_X12_condition, rr_X12_condition]; omega) (by dsimp only [rr_X12_condition, rr_X12_condition]; omega)) rfl (fun _ => rfl) rfl rfl (fun r40 M41 Nz42 h => ?_)
      obtain ⟨rfl, h⟩ := h
      refine j_istore_n o [(2, .int r40), (1, .int r1), (0, .ref (P.1 1))] dX12_unit_24 (by decide) rfl ?_
      refine j_aload_n o dX12_unit_25 rfl ?_
      refine j_dup o dX12_unit_26 rfl ?_
      refine j_getf o (g := 1) (slot := 7) (ci := 12) (v := .int (M41 1 7)) rfl jin_X12 (by decide) rfl jf_X12_150 (fun _ => rfl) rfl dX12_unit_27 ?_
      refine j_iconst o (v := 1) dX12_unit_30 rfl ?_
      refine j_isub o dX12_unit_31 ?_
      refine j_putf o (M1 := upM M41 1 7 ((M41 1 7) - 1)) (N1 := N) (g := 1) (slot := 7) (ci := 12) (ty := .int) rfl jin_X12 tyX12_ok nmX12 (by decide) rfl rfl jf_X12_150 (by decide +kernel) rfl rfl (Nat.le_of_ble_eq_true rfl) (fun _ => rfl) (fun _ => rfl) (fun _ hj => upM_ne _ _ _ hj) (fun _ _ => rfl) dX12_unit_32 ?_
      refine j_iload_n o dX12_unit_35 rfl ?_
      refine j_if_ne o (tgt := 43) dX12_unit_36 (by decide) (fun c43 => ?_) (fun c43 => ?_)
      · replace h := h.1 c43
        refine j_iconst o (v := 0) dX12_unit_43 rfl ?_
        rw [hE]
        exact j_zret o rfl dX12_unit_44 ⟨_, rfl, rfl, rfl, h⟩
      · replace h := h.2 c43
        refine j_iconst o (v := 1) dX12_unit_39 rfl ?_
        refine j_goto o (tgt := 44) dX12_unit_40 (by decide) ?_
        rw [hE]
        exact j_zret o rfl dX12_unit_44 ⟨_, rfl, rfl, rfl, h⟩
    · replace h := h.2 c39
      refine j_iconst o (v := 0) dX12_unit_18 rfl ?_
      rw [hE]
      exact j_zret o rfl dX12_unit_19 ⟨_, rfl, rfl, rfl, h⟩
theorem cr_X12_condition_all (l : Launch) : ∀ d, ih_X12_condition l d
  | 0 => ⟨fun _ _ _ _ h => h.elim, fun _ _ _ _ h => h.elim, fun _ _ _ _ h => h.elim⟩
  | d + 1 => ⟨cr_X12_condition l d (cr_X12_condition_all l d), cr_X12_part l d (cr_X12_condition_all l d), cr_X12_unit l d (cr_X12_condition_all l d)⟩
abbrev rm_X12_condition : Room := rr_X12_condition 40
def w_X12_condition (P : jP)  (M : jM) (Q : Int32 → jM → Prop) : Prop := (wr_X12_condition 40).1 P M Q
theorem c_X12_condition (l : Launch) (P : jP)  (M : jM) (N : jN) (Q : Int32 → jM → Prop) (h : w_X12_condition P M Q) : jC l yX12_condition cX12_condition 3 (some .boolean) rm_X12_condition LM [.ref (P.1 1)] P M N (jqi P (fun r M' N' => N = N' ∧ Q r M' )) := (cr_X12_condition_all l 40).1 P M N Q h
abbrev rm_X12_part : Room := rr_X12_condition 40
def w_X12_part (P : jP)  (M : jM) (Q : Int32 → jM → Prop) : Prop := (wr_X12_condition 40).2.1 P M Q
theorem c_X12_part (l : Launch) (P : jP)  (M : jM) (N : jN) (Q : Int32 → jM → Prop) (h : w_X12_part P M Q) : jC l yX12_part cX12_part 3 (some .boolean) rm_X12_part LM [.ref (P.1 1)] P M N (jqi P (fun r M' N' => N = N' ∧ Q r M' )) := (cr_X12_condition_all l 40).2.1 P M N Q h
abbrev rm_X12_unit : Room := rr_X12_condition 40
def w_X12_unit (P : jP)  (M : jM) (Q : Int32 → jM → Prop) : Prop := (wr_X12_condition 40).2.2 P M Q
theorem c_X12_unit (l : Launch) (P : jP)  (M : jM) (N : jN) (Q : Int32 → jM → Prop) (h : w_X12_unit P M Q) : jC l yX12_unit cX12_unit 3 (some .boolean) rm_X12_unit LM [.ref (P.1 1)] P M N (jqi P (fun r M' N' => N = N' ∧ Q r M' )) := (cr_X12_condition_all l 40).2.2 P M N Q h

abbrev rm_X12_begin : Room := { frames := 0, cells := 0, slots := 0, locals := 0 }
def w_X12_begin (P : jP) (a1 : Int32) (M : jM) (Q : jM → Prop) : Prop :=
  ∀ M1 : jM, M1 = upM (upM (upM (upM M 1 5 0) 1 6 (-1)) 1 7 0) 1 8 a1 →
  Q M1
set_option maxRecDepth 20000 in
theorem c_X12_begin (l : Launch) (P : jP) (a1 : Int32) (M : jM) (N : jN) (Q : jM → Prop) (h : w_X12_begin P a1 M Q) : jC l yX12_begin cX12_begin 2 none rm_X12_begin LM [.ref (P.1 1), .int a1] P M N (jqv P (fun M' N' => N = N' ∧ Q M' )) := by
  refine jC_of (by decide +kernel) [(0, .ref (P.1 1)), (1, .int a1)] (Nat.le_of_ble_eq_true rfl) rfl (fun X o => ?_)
  obtain ⟨E, hE⟩ : ∃ E, E = jE X rm_X12_begin (jqv P (fun M' N' => N = N' ∧ Q M' )) := ⟨_, rfl⟩
  rw [← hE]
  unfold w_X12_begin at h
  refine j_aload_n o dX12_begin_0 rfl ?_
  refine j_iconst o (v := 0) dX12_begin_1 rfl ?_
  refine j_putf o (M1 := upM M 1 5 0) (N1 := N) (g := 1) (slot := 5) (ci := 12) (ty := .int) rfl jin_X12 tyX12_ok nmX12 (by decide) rfl rfl jf_X12_133 (by decide +kernel) rfl rfl (Nat.le_of_ble_eq_true rfl) (fun _ => rfl) (fun _ => rfl) (fun _ hj => upM_ne _ _ _ hj) (fun _ _ => rfl) dX12_begin_2 ?_
  refine j_aload_n o dX12_begin_5 rfl ?_
  refine j_iconst o (v := (-1)) dX12_begin_6 rfl ?_
  refine j_putf o (M1 := upM (upM M 1 5 0) 1 6 (-1)) (N1 := N) (g := 1) (slot := 6) (ci := 12) (ty := .int) rfl jin_X12 tyX12_ok nmX12 (by decide) rfl rfl jf_X12_140 (by decide +kernel) rfl rfl (Nat.le_of_ble_eq_true rfl) (fun _ => rfl) (fun _ => rfl) (fun _ hj => upM_ne _ _ _ hj) (fun _ _ => rfl) dX12_begin_7 ?_
  refine j_aload_n o dX12_begin_10 rfl ?_
  refine j_iconst o (v := 0) dX12_begin_11 rfl ?_
  refine j_putf o (M1 := upM (upM (upM M 1 5 0) 1 6 (-1)) 1 7 0) (N1 := N) (g := 1) (slot := 7) (ci := 12) (ty := .int) rfl jin_X12 tyX12_ok nmX12 (by decide) rfl rfl jf_X12_150 (by decide +kernel) rfl rfl (Nat.le_of_ble_eq_true rfl) (fun _ => rfl) (fun _ => rfl) (fun _ hj => upM_ne _ _ _ hj) (fun _ _ => rfl) dX12_begin_12 ?_
  refine j_aload_n o dX12_begin_15 rfl ?_
  refine j_iload_n o dX12_begin_16 rfl ?_
  refine j_putf o (M1 := upM (upM (upM (upM M 1 5 0) 1 6 (-1)) 1 7 0) 1 8 a1) (N1 := N) (g := 1) (slot := 8) (ci := 12) (ty := .int) rfl jin_X12 tyX12_ok nmX12 (by decide) rfl rfl jf_X12_161 (by decide +kernel) rfl rfl (Nat.le_of_ble_eq_true rfl) (fun _ => rfl) (fun _ => rfl) (fun _ hj => upM_ne _ _ _ hj) (fun _ _ => rfl) dX12_begin_17 ?_
  refine j_nameM (fun M1 hM1 => ?_)
  replace h := h M1 hM1
  rw [hE]
  exact j_vret o dX12_begin_20 ⟨rfl, rfl, rfl, h⟩

abbrev rm_X12_readLaw : Room := { frames := 44, cells := 0, slots := 0, locals := 964 }
def w_X12_readLaw (P : jP) (a1 : Int32) (M : jM) (Q : jM → Prop) : Prop :=
  w_X12_begin P a1 M (fun M1 =>
  ∀ R17 : Int32 → jM → Prop, (∀ (x3 : Int32) (M4 : jM), (
   (x3 = 0 → (
    w_X12_look P M4 (fun r6 M7 =>
    (r6 = (-1) → (
     Q M7
    )) ∧ (¬ r6 = (-1) → (
     w_X12_fails P M7 (fun r10 M11 =>
     Q M11)
    )))
   )) ∧ (¬ x3 = 0 → (
    w_X12_look P M4 (fun r13 M14 =>
    ∀ R38 : Prop, ((
     w_X12_fails P M14 (fun r16 M17 =>
     Q M17)
    ) → R38) →
    (r13 < 48 → (
     R38
    )) ∧ (¬ r13 < 48 → (
     (r13 ≤ 53 → (
      w_X12_takes P 58 (upM M14 1 5 ((M14 1 5) + 1)) (fun r21 M22 =>
      (¬ r21 = 0 → (
       w_X12_condition P M22 (fun r25 M26 =>
       ∀ R106 : Int32 → jM → Prop, (∀ (x28 : Int32) (M29 : jM), (
        ((M29 1 6) = (-1) → (
         vp_in (M29 1 10) (12) ∧
         ∀ M32 : jM, M32 = upM M29 3 (M29 1 10).toNatClampNeg (r13 - 48) →
         ∀ R153 : Int32 → Int32 → Prop, (∀ (x33 : Int32) (x34 : Int32), (
          ∀ M35 : jM, M35 = upM (upM M32 1 11 (x33 ||| x34)) 1 10 (((upM M32 1 11 (x33 ||| x34)) 1 10) + 1) →
          w_X12_look P M35 (fun r36 M37 =>
          ∀ R181 : Int32 → Prop, (∀ (x39 : Int32), (
           ∀ R201 : Prop, ((
            (x39 = 0 → (
             R17 x39 M37
            )) ∧ (¬ x39 = 0 → (
             R17 x39 (upM M37 1 5 ((M37 1 5) + 1))
            ))
           ) → R201) →
           (x39 = 0 → (
            R201
           )) ∧ (¬ x39 = 0 → (
            (¬ (M37 1 10) = 12 → (
             R201
            )) ∧ ((M37 1 10) = 12 → (
             w_X12_fails P M37 (fun r43 M44 =>
             Q M44)
            ))
           ))
          ) → R181 x39) →
          (¬ r36 = 59 → (
           R181 0
          )) ∧ (r36 = 59 → (
           R181 1
          )))
         ) → R153 x33 x34) →
         (r25 = 0 → (
          R153 (M32 1 11) 0
         )) ∧ (¬ r25 = 0 → (
          (¬ x28 = 0 → (
           R153 (M32 1 11) 0
          )) ∧ (x28 = 0 → (
           R153 (M32 1 11) ((1 : Int32) <<< ((M32 1 10) &&& 31))
          ))
         ))
        )) ∧ (¬ (M29 1 6) = (-1) → (
         Q M29
        ))
       ) → R106 x28 M29) →
       (¬ (M26 1 6) = (-1) → (
        R106 0 M26
       )) ∧ ((M26 1 6) = (-1) → (
        w_X12_look P M26 (fun r50 M51 =>
        (¬ r50 = 117 → (
         R106 0 M51
        )) ∧ (r50 = 117 → (
         w_X12_condition P (upM M51 1 5 ((M51 1 5) + 1)) (fun r54 M55 =>
         R106 r54 M55)
        )))
       )))
      )) ∧ (r21 = 0 → (
       Q M22
      )))
     )) ∧ (¬ r13 ≤ 53 → (
      R38
     ))
    )))
   ))
  ) → R17 x3 M4) →
  R17 1 (upM (upM M1 1 10 0) 1 11 0))
set_option maxRecDepth 20000 in
theorem c_X12_readLaw (l : Launch) (P : jP) (a1 : Int32) (M : jM) (N : jN) (Q : jM → Prop) (h : w_X12_readLaw P a1 M Q) : jC l yX12_readLaw cX12_readLaw 6 none rm_X12_readLaw LM [.ref (P.1 1), .int a1] P M N (jqv P (fun M' N' => N = N' ∧ Q M' )) := by
  refine jC_of (by decide +kernel) [(0, .ref (P.1 1)), (1, .int a1)] (Nat.le_of_ble_eq_true rfl) rfl (fun X o => ?_)
  obtain ⟨E, hE⟩ : ∃ E, E = jE X rm_X12_readLaw (jqv P (fun M' N' => N = N' ∧ Q M' )) := ⟨_, rfl⟩
  rw [← hE]
  unfold w_X12_readLaw at h
  refine j_aload_n o dX12_readLaw_0 rfl ?_
  refine j_iload_n o dX12_readLaw_1 rfl ?_
  refine j_callVv (g := 1) (ci := 12) o (c_X12_begin l P a1 M N _ h) dX12_readLaw_2 jc_X12_182 jn_X12_begin rfl rfl rfl (fun _ => rfl) rfl rfl (fun M1 Nz2 h => ?_)
  obtain ⟨rfl, h⟩ := h
  refine j_aload_n o dX12_readLaw_5 rfl ?_
  refine j_iconst o (v := 0) dX12_readLaw_6 rfl ?_
  refine j_putf o (M1 := upM M1 1 10 0) (N1 := N) (g := 1) (slot := 10) (ci := 12) (ty := .int) rfl jin_X12 tyX12_ok nmX12 (by decide) rfl rfl jf_X12_185 (by decide +kernel) rfl rfl (Nat.le_of_ble_eq_true rfl) (fun _ => rfl) (fun _ => rfl) (fun _ hj => upM_ne _ _ _ hj) (fun _ _ => rfl) dX12_readLaw_7 ?_
  refine j_aload_n o dX12_readLaw_10 rfl ?_
  refine j_iconst o (v := 0) dX12_readLaw_11 rfl ?_
  refine j_putf o (M1 := upM (upM M1 1 10 0) 1 11 0) (N1 := N) (g := 1) (slot := 11) (ci := 12) (ty := .int) rfl jin_X12 tyX12_ok nmX12 (by decide) rfl rfl jf_X12_188 (by decide +kernel) rfl rfl (Nat.le_of_ble_eq_true rfl) (fun _ => rfl) (fun _ => rfl) (fun _ hj => upM_ne _ _ _ hj) (fun _ _ => rfl) dX12_readLaw_12 ?_
  refine j_iconst o (v := 1) dX12_readLaw_15 rfl ?_
  refine j_istore_n o [(2, .int 1), (0, .ref (P.1 1)), (1, .int a1)] dX12_readLaw_16 (by decide) rfl ?_
  replace h := h (fun (x3 : Int32) (M4 : jM) => J X P M4 N 0 0 E 6 17 [(0, .ref (P.1 1)), (2, .int x3)] []) (by
    intro x3 M4 h
    refine j_iload_n o dX12_readLaw_17 rfl ?_
    refine j_if_eq o (tgt := 218) dX12_readLaw_18 (by decide) (fun c5 => ?_) (fun c5 => ?_)
    · replace h := h.1 c5
      refine j_aload_n o dX12_readLaw_218 rfl ?_
      refine j_callVi (g := 1) (ci := 12) o (c_X12_look l P M4 N _ h) dX12_readLaw_219 jc_X12_143 jn_X12_look rfl rfl rfl (fun _ => rfl) rfl rfl (fun r6 M7 Nz8 h => ?_)
      obtain ⟨rfl, h⟩ := h
      refine j_iconst o (v := (-1)) dX12_readLaw_222 rfl ?_
      refine j_icmp_eq o (tgt := 231) dX12_readLaw_223 (by decide) (fun c9 => ?_) (fun c9 => ?_)
      · replace h := h.1 c9
        rw [hE]
        exact j_vret o dX12_readLaw_231 ⟨rfl, rfl, rfl, h⟩
      · replace h := h.2 c9
        refine j_aload_n o dX12_readLaw_226 rfl ?_
        refine j_callVi (g := 1) (ci := 12) o (c_X12_fails l P M7 N _ h) dX12_readLaw_227 jc_X12_146 jn_X12_fails rfl rfl rfl (fun _ => rfl) rfl rfl (fun r10 M11 Nz12 h => ?_)
        obtain ⟨rfl, h⟩ := h
        refine j_pop o dX12_readLaw_230 rfl ?_
        rw [hE]
        exact j_vret o dX12_readLaw_231 ⟨rfl, rfl, rfl, h⟩
    · replace h := h.2 c5
      refine j_aload_n o dX12_readLaw_21 rfl ?_
      refine j_callVi (g := 1) (ci := 12) o (c_X12_look l P M4 N _ h) dX12_readLaw_22 jc_X12_143 jn_X12_look rfl rfl rfl (fun _ => rfl) rfl rfl (fun r13 M14 Nz15 h => ?_)
      obtain ⟨rfl, h⟩ := h
      refine j_istore_n o [(3, .int r13), (0, .ref (P.1 1)), (2, .int x3)] dX12_readLaw_25 (by decide) rfl ?_
      refine j_iload_n o dX12_readLaw_26 rfl ?_
      refine j_bipush o (v := 48) dX12_readLaw_27 rfl ?_
      replace h := h (J X P M14 N 0 0 E 6 38 [(0, .ref (P.1 1))] []) (by
        intro h
        refine j_aload_n o dX12_readLaw_38 rfl ?_
        refine j_callVi (g := 1) (ci := 12) o (c_X12_fails l P M14 N _ h) dX12_readLaw_39 jc_X12_146 jn_X12_fails rfl rfl rfl (fun _ => rfl) rfl rfl (fun r16 M17 Nz18 h => ?_)
        obtain ⟨rfl, h⟩ := h
        refine j_pop o dX12_readLaw_42 rfl ?_
        rw [hE]
        exact j_vret o dX12_readLaw_43 ⟨rfl, rfl, rfl, h⟩)
      refine j_icmp_lt o (tgt := 38) dX12_readLaw_29 (by decide) (fun c19 => ?_) (fun c19 => ?_)
      · replace h := h.1 c19
        exact j_pick [1] rfl h
      · replace h := h.2 c19
        refine j_iload_n o dX12_readLaw_32 rfl ?_
        refine j_bipush o (v := 53) dX12_readLaw_33 rfl ?_
        refine j_icmp_le o (tgt := 44) dX12_readLaw_35 (by decide) (fun c20 => ?_) (fun c20 => ?_)
        · replace h := h.1 c20
          refine j_aload_n o dX12_readLaw_44 rfl ?_
          refine j_dup o dX12_readLaw_45 rfl ?_
          refine j_getf o (g := 1) (slot := 5) (ci := 12) (v := .int (M14 1 5)) rfl jin_X12 (by decide) rfl jf_X12_133 (fun _ => rfl) rfl dX12_readLaw_46 ?_
          refine j_iconst o (v := 1) dX12_readLaw_49 rfl ?_
          refine j_iadd o dX12_readLaw_50 ?_
          refine j_putf o (M1 := upM M14 1 5 ((M14 1 5) + 1)) (N1 := N) (g := 1) (slot := 5) (ci := 12) (ty := .int) rfl jin_X12 tyX12_ok nmX12 (by decide) rfl rfl jf_X12_133 (by decide +kernel) rfl rfl (Nat.le_of_ble_eq_true rfl) (fun _ => rfl) (fun _ => rfl) (fun _ hj => upM_ne _ _ _ hj) (fun _ _ => rfl) dX12_readLaw_51 ?_
          refine j_aload_n o dX12_readLaw_54 rfl ?_
          refine j_bipush o (v := 58) dX12_readLaw_55 rfl ?_
          refine j_callVi (g := 1) (ci := 12) o (c_X12_takes l P 58 (upM M14 1 5 ((M14 1 5) + 1)) N _ h) dX12_readLaw_57 jc_X12_173 jn_X12_takes rfl rfl rfl (fun _ => rfl) rfl rfl (fun r21 M22 Nz23 h => ?_)
          obtain ⟨rfl, h⟩ := h
          refine j_if_ne o (tgt := 64) dX12_readLaw_60 (by decide) (fun c24 => ?_) (fun c24 => ?_)
          · replace h := h.1 c24
            refine j_aload_n o dX12_readLaw_64 rfl ?_
            refine j_callVi (g := 1) (ci := 12) o (c_X12_condition l P M22 N _ h) dX12_readLaw_65 jc_X12_170 jn_X12_condition rfl rfl rfl (fun _ => rfl) rfl rfl (fun r25 M26 Nz27 h => ?_)
            obtain ⟨rfl, h⟩ := h
            refine j_istore o [(4, .int r25), (3, .int r13), (0, .ref (P.1 1)), (2, .int x3)] dX12_readLaw_68 (by decide) rfl ?_
            refine j_iconst o (v := 0) dX12_readLaw_70 rfl ?_
            refine j_istore o [(5, .int 0), (4, .int r25), (3, .int r13), (0, .ref (P.1 1)), (2, .int x3)] dX12_readLaw_71 (by decide) rfl ?_
            refine j_aload_n o dX12_readLaw_73 rfl ?_
            refine j_getf o (g := 1) (slot := 6) (ci := 12) (v := .int (M26 1 6)) rfl jin_X12 (by decide) rfl jf_X12_140 (fun _ => rfl) rfl dX12_readLaw_74 ?_
            refine j_iconst o (v := (-1)) dX12_readLaw_77 rfl ?_
            replace h := h (fun (x28 : Int32) (M29 : jM) => J X P M29 N 0 0 E 6 106 [(0, .ref (P.1 1)), (3, .int r13), (4, .int r25), (5, .int x28)] []) (by
              intro x28 M29 h
              refine j_aload_n o dX12_readLaw_106 rfl ?_
              refine j_getf o (g := 1) (slot := 6) (ci := 12) (v := .int (M29 1 6)) rfl jin_X12 (by decide) rfl jf_X12_140 (fun _ => rfl) rfl dX12_readLaw_107 ?_
              refine j_iconst o (v := (-1)) dX12_readLaw_110 rfl ?_
              refine j_icmp_eq o (tgt := 115) dX12_readLaw_111 (by decide) (fun c30 => ?_) (fun c30 => ?_)
              · replace h := h.1 c30
                refine j_aload_n o dX12_readLaw_115 rfl ?_
                refine j_getf o (g := 1) (slot := 9) (ci := 12) (v := .ref (P.1 3)) rfl jin_X12 (by decide) rfl jf_X12_13 (fun _ => rfl) rfl dX12_readLaw_116 ?_
                refine j_aload_n o dX12_readLaw_119 rfl ?_
                refine j_getf o (g := 1) (slot := 10) (ci := 12) (v := .int (M29 1 10)) rfl jin_X12 (by decide) rfl jf_X12_185 (fun _ => rfl) rfl dX12_readLaw_120 ?_
                refine j_iload_n o dX12_readLaw_123 rfl ?_
                refine j_bipush o (v := 48) dX12_readLaw_124 rfl ?_
                refine j_isub o dX12_readLaw_126 ?_
                obtain ⟨hb31, h⟩ := h
                refine j_iast o (g := 3) (fun _ _ _ => rfl) hb31 dX12_readLaw_127 ?_
                refine j_nameM (fun M32 hM32 => ?_)
                replace h := h M32 hM32
                refine j_aload_n o dX12_readLaw_128 rfl ?_
                refine j_dup o dX12_readLaw_129 rfl ?_
                refine j_getf o (g := 1) (slot := 11) (ci := 12) (v := .int (M32 1 11)) rfl jin_X12 (by decide) rfl jf_X12_188 (fun _ => rfl) rfl dX12_readLaw_130 ?_
                refine j_iload o dX12_readLaw_133 rfl ?_
                replace h := h (fun (x33 : Int32) (x34 : Int32) => J X P M32 N 0 0 E 6 153 [(0, .ref (P.1 1))] [.int x34, .int x33, .ref (P.1 1)]) (by
                  intro x33 x34 h
                  refine j_ior o dX12_readLaw_153 ?_
                  refine j_putf o (M1 := upM M32 1 11 (x33 ||| x34)) (N1 := N) (g := 1) (slot := 11) (ci := 12) (ty := .int) rfl jin_X12 tyX12_ok nmX12 (by decide) rfl rfl jf_X12_188 (by decide +kernel) rfl rfl (Nat.le_of_ble_eq_true rfl) (fun _ => rfl) (fun _ => rfl) (fun _ hj => upM_ne _ _ _ hj) (fun _ _ => rfl) dX12_readLaw_154 ?_
                  refine j_aload_n o dX12_readLaw_157 rfl ?_
                  refine j_dup o dX12_readLaw_158 rfl ?_
                  refine j_getf o (g := 1) (slot := 10) (ci := 12) (v := .int ((upM M32 1 11 (x33 ||| x34)) 1 10)) rfl jin_X12 (by decide) rfl jf_X12_185 (fun _ => rfl) rfl dX12_readLaw_159 ?_
                  refine j_iconst o (v := 1) dX12_readLaw_162 rfl ?_
                  refine j_iadd o dX12_readLaw_163 ?_
                  refine j_putf o (M1 := upM (upM M32 1 11 (x33 ||| x34)) 1 10 (((upM M32 1 11 (x33 ||| x34)) 1 10) + 1)) (N1 := N) (g := 1) (slot := 10) (ci := 12) (ty := .int) rfl jin_X12 tyX12_ok nmX12 (by decide) rfl rfl jf_X12_185 (by decide +kernel) rfl rfl (Nat.le_of_ble_eq_true rfl) (fun _ => rfl) (fun _ => rfl) (fun _ hj => upM_ne _ _ _ hj) (fun _ _ => rfl) dX12_readLaw_164 ?_
                  refine j_nameM (fun M35 hM35 => ?_)
                  replace h := h M35 hM35
                  refine j_aload_n o dX12_readLaw_167 rfl ?_
                  refine j_callVi (g := 1) (ci := 12) o (c_X12_look l P M35 N _ h) dX12_readLaw_168 jc_X12_143 jn_X12_look rfl rfl rfl (fun _ => rfl) rfl rfl (fun r36 M37 Nz38 h => ?_)
                  obtain ⟨rfl, h⟩ := h
                  refine j_bipush o (v := 59) dX12_readLaw_171 rfl ?_
                  replace h := h (fun (x39 : Int32) => J X P M37 N 0 0 E 6 181 [(0, .ref (P.1 1))] [.int x39]) (by
                    intro x39 h
                    refine j_istore_n o [(2, .int x39), (0, .ref (P.1 1))] dX12_readLaw_181 (by decide) rfl ?_
                    refine j_iload_n o dX12_readLaw_182 rfl ?_
                    replace h := h (J X P M37 N 0 0 E 6 201 [(0, .ref (P.1 1)), (2, .int x39)] []) (by
                      intro h
                      refine j_iload_n o dX12_readLaw_201 rfl ?_
                      refine j_if_eq o (tgt := 215) dX12_readLaw_202 (by decide) (fun c40 => ?_) (fun c40 => ?_)
                      · replace h := h.1 c40
                        refine j_goto o (tgt := 17) dX12_readLaw_215 (by decide) ?_
                        exact j_pick [0, 1] rfl h
                      · replace h := h.2 c40
                        refine j_aload_n o dX12_readLaw_205 rfl ?_
                        refine j_dup o dX12_readLaw_206 rfl ?_
                        refine j_getf o (g := 1) (slot := 5) (ci := 12) (v := .int (M37 1 5)) rfl jin_X12 (by decide) rfl jf_X12_133 (fun _ => rfl) rfl dX12_readLaw_207 ?_
                        refine j_iconst o (v := 1) dX12_readLaw_210 rfl ?_
                        refine j_iadd o dX12_readLaw_211 ?_
                        refine j_putf o (M1 := upM M37 1 5 ((M37 1 5) + 1)) (N1 := N) (g := 1) (slot := 5) (ci := 12) (ty := .int) rfl jin_X12 tyX12_ok nmX12 (by decide) rfl rfl jf_X12_133 (by decide +kernel) rfl rfl (Nat.le_of_ble_eq_true rfl) (fun _ => rfl) (fun _ => rfl) (fun _ hj => upM_ne _ _ _ hj) (fun _ _ => rfl) dX12_readLaw_212 ?_
                        refine j_goto o (tgt := 17) dX12_readLaw_215 (by decide) ?_
                        exact j_pick [0, 1] rfl h)
                    refine j_if_eq o (tgt := 201) dX12_readLaw_183 (by decide) (fun c41 => ?_) (fun c41 => ?_)
                    · replace h := h.1 c41
                      exact j_pick [1, 0] rfl h
                    · replace h := h.2 c41
                      refine j_aload_n o dX12_readLaw_186 rfl ?_
                      refine j_getf o (g := 1) (slot := 10) (ci := 12) (v := .int (M37 1 10)) rfl jin_X12 (by decide) rfl jf_X12_185 (fun _ => rfl) rfl dX12_readLaw_187 ?_
                      refine j_bipush o (v := 12) dX12_readLaw_190 rfl ?_
                      refine j_icmp_ne o (tgt := 201) dX12_readLaw_192 (by decide) (fun c42 => ?_) (fun c42 => ?_)
                      · replace h := h.1 c42
                        exact j_pick [1, 0] rfl h
                      · replace h := h.2 c42
                        refine j_aload_n o dX12_readLaw_195 rfl ?_
                        refine j_callVi (g := 1) (ci := 12) o (c_X12_fails l P M37 N _ h) dX12_readLaw_196 jc_X12_146 jn_X12_fails rfl rfl rfl (fun _ => rfl) rfl rfl (fun r43 M44 Nz45 h => ?_)
                        obtain ⟨rfl, h⟩ := h
                        refine j_pop o dX12_readLaw_199 rfl ?_
                        rw [hE]
                        exact j_vret o dX12_readLaw_200 ⟨rfl, rfl, rfl, h⟩)
                  refine j_icmp_ne o (tgt := 180) dX12_readLaw_173 (by decide) (fun c46 => ?_) (fun c46 => ?_)
                  · replace h := h.1 c46
                    refine j_iconst o (v := 0) dX12_readLaw_180 rfl ?_
                    exact j_pick [0] rfl h
                  · replace h := h.2 c46
                    refine j_iconst o (v := 1) dX12_readLaw_176 rfl ?_
                    refine j_goto o (tgt := 181) dX12_readLaw_177 (by decide) ?_
                    exact j_pick [0] rfl h)
                refine j_if_eq o (tgt := 152) dX12_readLaw_135 (by decide) (fun c47 => ?_) (fun c47 => ?_)
                · replace h := h.1 c47
                  refine j_iconst o (v := 0) dX12_readLaw_152 rfl ?_
                  exact j_pick [0] rfl h
                · replace h := h.2 c47
                  refine j_iload o dX12_readLaw_138 rfl ?_
                  refine j_if_ne o (tgt := 152) dX12_readLaw_140 (by decide) (fun c48 => ?_) (fun c48 => ?_)
                  · replace h := h.1 c48
                    refine j_iconst o (v := 0) dX12_readLaw_152 rfl ?_
                    exact j_pick [0] rfl h
                  · replace h := h.2 c48
                    refine j_iconst o (v := 1) dX12_readLaw_143 rfl ?_
                    refine j_aload_n o dX12_readLaw_144 rfl ?_
                    refine j_getf o (g := 1) (slot := 10) (ci := 12) (v := .int (M32 1 10)) rfl jin_X12 (by decide) rfl jf_X12_185 (fun _ => rfl) rfl dX12_readLaw_145 ?_
                    refine j_ishl o dX12_readLaw_148 ?_
                    refine j_goto o (tgt := 153) dX12_readLaw_149 (by decide) ?_
                    exact j_pick [0] rfl h
              · replace h := h.2 c30
                rw [hE]
                exact j_vret o dX12_readLaw_114 ⟨rfl, rfl, rfl, h⟩)
            refine j_icmp_ne o (tgt := 106) dX12_readLaw_78 (by decide) (fun c49 => ?_) (fun c49 => ?_)
            · replace h := h.1 c49
              exact j_pick [3, 2, 1, 0] rfl h
            · replace h := h.2 c49
              refine j_aload_n o dX12_readLaw_81 rfl ?_
              refine j_callVi (g := 1) (ci := 12) o (c_X12_look l P M26 N _ h) dX12_readLaw_82 jc_X12_143 jn_X12_look rfl rfl rfl (fun _ => rfl) rfl rfl (fun r50 M51 Nz52 h => ?_)
              obtain ⟨rfl, h⟩ := h
              refine j_bipush o (v := 117) dX12_readLaw_85 rfl ?_
              refine j_icmp_ne o (tgt := 106) dX12_readLaw_87 (by decide) (fun c53 => ?_) (fun c53 => ?_)
              · replace h := h.1 c53
                exact j_pick [3, 2, 1, 0] rfl h
              · replace h := h.2 c53
                refine j_aload_n o dX12_readLaw_90 rfl ?_
                refine j_dup o dX12_readLaw_91 rfl ?_
                refine j_getf o (g := 1) (slot := 5) (ci := 12) (v := .int (M51 1 5)) rfl jin_X12 (by decide) rfl jf_X12_133 (fun _ => rfl) rfl dX12_readLaw_92 ?_
                refine j_iconst o (v := 1) dX12_readLaw_95 rfl ?_
                refine j_iadd o dX12_readLaw_96 ?_
                refine j_putf o (M1 := upM M51 1 5 ((M51 1 5) + 1)) (N1 := N) (g := 1) (slot := 5) (ci := 12) (ty := .int) rfl jin_X12 tyX12_ok nmX12 (by decide) rfl rfl jf_X12_133 (by decide +kernel) rfl rfl (Nat.le_of_ble_eq_true rfl) (fun _ => rfl) (fun _ => rfl) (fun _ hj => upM_ne _ _ _ hj) (fun _ _ => rfl) dX12_readLaw_97 ?_
                refine j_aload_n o dX12_readLaw_100 rfl ?_
                refine j_callVi (g := 1) (ci := 12) o (c_X12_condition l P (upM M51 1 5 ((M51 1 5) + 1)) N _ h) dX12_readLaw_101 jc_X12_170 jn_X12_condition rfl rfl rfl (fun _ => rfl) rfl rfl (fun r54 M55 Nz56 h => ?_)
                obtain ⟨rfl, h⟩ := h
                refine j_istore o [(5, .int r54), (4, .int r25), (3, .int r13), (0, .ref (P.1 1)), (2, .int x3)] dX12_readLaw_104 (by decide) rfl ?_
                exact j_pick [3, 2, 1, 0] rfl h
          · replace h := h.2 c24
            rw [hE]
            exact j_vret o dX12_readLaw_63 ⟨rfl, rfl, rfl, h⟩
        · replace h := h.2 c20
          exact j_pick [1] rfl h)
  exact j_pick [1, 0] rfl h

abbrev rm_X12_readQuestion : Room := { frames := 44, cells := 0, slots := 0, locals := 964 }
def w_X12_readQuestion (P : jP) (a1 : Int32) (M : jM) (Q : Int32 → jM → Prop) : Prop :=
  w_X12_begin P a1 M (fun M1 =>
  w_X12_condition P M1 (fun r3 M4 =>
  (¬ (M4 1 6) = (-1) → (
   jb r3 ∧
   Q r3 M4
  )) ∧ ((M4 1 6) = (-1) → (
   w_X12_look P M4 (fun r8 M9 =>
   (r8 = (-1) → (
    jb r3 ∧
    Q r3 M9
   )) ∧ (¬ r8 = (-1) → (
    w_X12_fails P M9 (fun r13 M14 =>
    jb r3 ∧
    Q r3 M14)
   )))
  ))))
set_option maxRecDepth 20000 in
theorem c_X12_readQuestion (l : Launch) (P : jP) (a1 : Int32) (M : jM) (N : jN) (Q : Int32 → jM → Prop) (h : w_X12_readQuestion P a1 M Q) : jC l yX12_readQuestion cX12_readQuestion 3 (some .boolean) rm_X12_readQuestion LM [.ref (P.1 1), .int a1] P M N (jqi P (fun r M' N' => N = N' ∧ Q r M' )) := by
  refine jC_of (by decide +kernel) [(0, .ref (P.1 1)), (1, .int a1)] (Nat.le_of_ble_eq_true rfl) rfl (fun X o => ?_)
  obtain ⟨E, hE⟩ : ∃ E, E = jE X rm_X12_readQuestion (jqi P (fun r M' N' => N = N' ∧ Q r M' )) := ⟨_, rfl⟩
  rw [← hE]
  unfold w_X12_readQuestion at h
  refine j_aload_n o dX12_readQuestion_0 rfl ?_
  refine j_iload_n o dX12_readQuestion_1 rfl ?_
  refine j_callVv (g := 1) (ci := 12) o (c_X12_begin l P a1 M N _ h) dX12_readQuestion_2 jc_X12_182 jn_X12_begin rfl rfl rfl (fun _ => rfl) rfl rfl (fun M1 Nz2 h => ?_)
  obtain ⟨rfl, h⟩ := h
  refine j_aload_n o dX12_readQuestion_5 rfl ?_
  refine j_callVi (g := 1) (ci := 12) o (c_X12_condition l P M1 N _ h) dX12_readQuestion_6 jc_X12_170 jn_X12_condition rfl rfl rfl (fun _ => rfl) rfl rfl (fun r3 M4 Nz5 h => ?_)
  obtain ⟨rfl, h⟩ := h
  refine j_istore_n o [(2, .int r3), (0, .ref (P.1 1)), (1, .int a1)] dX12_readQuestion_9 (by decide) rfl ?_
  refine j_aload_n o dX12_readQuestion_10 rfl ?_
  refine j_getf o (g := 1) (slot := 6) (ci := 12) (v := .int (M4 1 6)) rfl jin_X12 (by decide) rfl jf_X12_140 (fun _ => rfl) rfl dX12_readQuestion_11 ?_
  refine j_iconst o (v := (-1)) dX12_readQuestion_14 rfl ?_
  refine j_icmp_ne o (tgt := 31) dX12_readQuestion_15 (by decide) (fun c6 => ?_) (fun c6 => ?_)
  · replace h := h.1 c6
    refine j_iload_n o dX12_readQuestion_31 rfl ?_
    obtain ⟨hz7, h⟩ := h
    rw [hE]
    exact j_zret o hz7.1 dX12_readQuestion_32 ⟨_, rfl, rfl, rfl, h⟩
  · replace h := h.2 c6
    refine j_aload_n o dX12_readQuestion_18 rfl ?_
    refine j_callVi (g := 1) (ci := 12) o (c_X12_look l P M4 N _ h) dX12_readQuestion_19 jc_X12_143 jn_X12_look rfl rfl rfl (fun _ => rfl) rfl rfl (fun r8 M9 Nz10 h => ?_)
    obtain ⟨rfl, h⟩ := h
    refine j_iconst o (v := (-1)) dX12_readQuestion_22 rfl ?_
    refine j_icmp_eq o (tgt := 31) dX12_readQuestion_23 (by decide) (fun c11 => ?_) (fun c11 => ?_)
    · replace h := h.1 c11
      refine j_iload_n o dX12_readQuestion_31 rfl ?_
      obtain ⟨hz12, h⟩ := h
      rw [hE]
      exact j_zret o hz12.1 dX12_readQuestion_32 ⟨_, rfl, rfl, rfl, h⟩
    · replace h := h.2 c11
      refine j_aload_n o dX12_readQuestion_26 rfl ?_
      refine j_callVi (g := 1) (ci := 12) o (c_X12_fails l P M9 N _ h) dX12_readQuestion_27 jc_X12_146 jn_X12_fails rfl rfl rfl (fun _ => rfl) rfl rfl (fun r13 M14 Nz15 h => ?_)
      obtain ⟨rfl, h⟩ := h
      refine j_pop o dX12_readQuestion_30 rfl ?_
      refine j_iload_n o dX12_readQuestion_31 rfl ?_
      obtain ⟨hz16, h⟩ := h
      rw [hE]
      exact j_zret o hz16.1 dX12_readQuestion_32 ⟨_, rfl, rfl, rfl, h⟩

abbrev rm_X12_isDigit : Room := { frames := 1, cells := 0, slots := 0, locals := 20 }
def w_X12_isDigit (P : jP)  (M : jM) (Q : Int32 → Prop) : Prop :=
  w_X12_here P M (fun r1 =>
  (r1 < 48 → (
   Q 0
  )) ∧ (¬ r1 < 48 → (
   w_X12_here P M (fun r5 =>
   (57 < r5 → (
    Q 0
   )) ∧ (¬ 57 < r5 → (
    Q 1
   )))
  )))
set_option maxRecDepth 20000 in
theorem c_X12_isDigit (l : Launch) (P : jP)  (M : jM) (N : jN) (Q : Int32 → Prop) (h : w_X12_isDigit P M Q) : jC l yX12_isDigit cX12_isDigit 1 (some .boolean) rm_X12_isDigit LM [.ref (P.1 1)] P M N (jqi P (fun r M' N' => M = M' ∧ N = N' ∧ Q r )) := by
  refine jC_of (by decide +kernel) [(0, .ref (P.1 1))] (Nat.le_of_ble_eq_true rfl) rfl (fun X o => ?_)
  obtain ⟨E, hE⟩ : ∃ E, E = jE X rm_X12_isDigit (jqi P (fun r M' N' => M = M' ∧ N = N' ∧ Q r )) := ⟨_, rfl⟩
  rw [← hE]
  unfold w_X12_isDigit at h
  refine j_aload_n o dX12_isDigit_0 rfl ?_
  refine j_callVi (g := 1) (ci := 12) o (c_X12_here l P M N _ h) dX12_isDigit_1 jc_X12_136 jn_X12_here rfl rfl rfl (fun _ => rfl) rfl rfl (fun r1 Mz2 Nz3 h => ?_)
  obtain ⟨rfl, rfl, h⟩ := h
  refine j_bipush o (v := 48) dX12_isDigit_4 rfl ?_
  refine j_icmp_lt o (tgt := 22) dX12_isDigit_6 (by decide) (fun c4 => ?_) (fun c4 => ?_)
  · replace h := h.1 c4
    refine j_iconst o (v := 0) dX12_isDigit_22 rfl ?_
    rw [hE]
    exact j_zret o rfl dX12_isDigit_23 ⟨_, rfl, rfl, rfl, rfl, h⟩
  · replace h := h.2 c4
    refine j_aload_n o dX12_isDigit_9 rfl ?_
    refine j_callVi (g := 1) (ci := 12) o (c_X12_here l P M N _ h) dX12_isDigit_10 jc_X12_136 jn_X12_here rfl rfl rfl (fun _ => rfl) rfl rfl (fun r5 Mz6 Nz7 h => ?_)
    obtain ⟨rfl, rfl, h⟩ := h
    refine j_bipush o (v := 57) dX12_isDigit_13 rfl ?_
    refine j_icmp_gt o (tgt := 22) dX12_isDigit_15 (by decide) (fun c8 => ?_) (fun c8 => ?_)
    · replace h := h.1 c8
      refine j_iconst o (v := 0) dX12_isDigit_22 rfl ?_
      rw [hE]
      exact j_zret o rfl dX12_isDigit_23 ⟨_, rfl, rfl, rfl, rfl, h⟩
    · replace h := h.2 c8
      refine j_iconst o (v := 1) dX12_isDigit_18 rfl ?_
      refine j_goto o (tgt := 23) dX12_isDigit_19 (by decide) ?_
      rw [hE]
      exact j_zret o rfl dX12_isDigit_23 ⟨_, rfl, rfl, rfl, rfl, h⟩
