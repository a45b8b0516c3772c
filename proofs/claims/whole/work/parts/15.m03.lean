abbrev rm_X11_factsThatMatter : Room := { frames := 0, cells := 0, slots := 0, locals := 0 }
def w_X11_factsThatMatter (P : jP) (a1 : Nat) (a2 : Int32) (M : jM) (Q : Int32 → Prop) : Prop :=
  ∀ R5 : Int32 → Int32 → Prop, (∀ (x1 : Int32) (x2 : Int32), (
   ((M 2 0) ≤ x2 → (
    Q x1
   )) ∧ (¬ (M 2 0) ≤ x2 → (
    cLw P a1 = true ∧
    jin P (a1 + 3) a2 ∧
    cLw P a1 = true ∧
    jin P (a1 + 3) (a2 ^^^ ((1 : Int32) <<< (x2 &&& 31))) ∧
    ∀ R44 : Int32 → Prop, (∀ (x8 : Int32), (
     R5 x8 (x2 + 1)
    ) → R44 x8) →
    ((M (a1 + 3) a2.toNatClampNeg) = (M (a1 + 3) (a2 ^^^ ((1 : Int32) <<< (x2 &&& 31))).toNatClampNeg) → (
     R44 x1
    )) ∧ (¬ (M (a1 + 3) a2.toNatClampNeg) = (M (a1 + 3) (a2 ^^^ ((1 : Int32) <<< (x2 &&& 31))).toNatClampNeg) → (
     R44 (x1 ||| ((1 : Int32) <<< (x2 &&& 31)))
    ))
   ))
  ) → R5 x1 x2) →
  R5 0 0
set_option maxRecDepth 20000 in
theorem c_X11_factsThatMatter (l : Launch) (P : jP) (a1 : Nat) (a2 : Int32) (M : jM) (N : jN) (Q : Int32 → Prop) (h : w_X11_factsThatMatter P a1 a2 M Q) : jC l yX11_factsThatMatter cX11_factsThatMatter 5 (some .int) rm_X11_factsThatMatter LC [.ref (P.1 1), .ref (P.1 a1), .int a2] P M N (jqi P (fun r M' N' => M = M' ∧ N = N' ∧ Q r )) := by
  refine jC_of (by decide +kernel) [(0, .ref (P.1 1)), (1, .ref (P.1 a1)), (2, .int a2)] (Nat.le_of_ble_eq_true rfl) rfl (fun X o => ?_)
  obtain ⟨E, hE⟩ : ∃ E, E = jE X rm_X11_factsThatMatter (jqi P (fun r M' N' => M = M' ∧ N = N' ∧ Q r )) := ⟨_, rfl⟩
  rw [← hE]
  unfold w_X11_factsThatMatter at h
  refine j_iconst o (v := 0) dX11_factsThatMatter_0 rfl ?_
  refine j_istore_n o [(3, .int 0), (0, .ref (P.1 1)), (1, .ref (P.1 a1)), (2, .int a2)] dX11_factsThatMatter_1 (by decide) rfl ?_
  refine j_iconst o (v := 0) dX11_factsThatMatter_2 rfl ?_
  refine j_istore o [(4, .int 0), (3, .int 0), (0, .ref (P.1 1)), (1, .ref (P.1 a1)), (2, .int a2)] dX11_factsThatMatter_3 (by decide) rfl ?_
  replace h := h (fun (x1 : Int32) (x2 : Int32) => J X P M N 0 0 E 5 5 [(0, .ref (P.1 1)), (1, .ref (P.1 a1)), (2, .int a2), (3, .int x1), (4, .int x2)] []) (by
    intro x1 x2 h
    refine j_iload o dX11_factsThatMatter_5 rfl ?_
    refine j_aload_n o dX11_factsThatMatter_7 rfl ?_
    refine j_getf o (g := 1) (slot := 0) (ci := 11) (v := .ref (P.1 2)) rfl jin_X11 (by decide) rfl jf_X11_23 (fun _ => rfl) rfl dX11_factsThatMatter_8 ?_
    refine j_getf o (g := 2) (slot := 0) (ci := 3) (v := .int (M 2 0)) rfl jin_X3 (by decide) rfl jf_X11_224 (fun _ => rfl) rfl dX11_factsThatMatter_11 ?_
    refine j_icmp_ge o (tgt := 50) dX11_factsThatMatter_14 (by decide) (fun c3 => ?_) (fun c3 => ?_)
    · replace h := h.1 c3
      refine j_iload_n o dX11_factsThatMatter_50 rfl ?_
      rw [hE]
      exact j_iret o dX11_factsThatMatter_51 ⟨_, rfl, rfl, rfl, rfl, h⟩
    · replace h := h.2 c3
      refine j_aload_n o dX11_factsThatMatter_17 rfl ?_
      obtain ⟨hb4, h⟩ := h
      refine j_getf o (g := a1) (slot := 3) (ci := 4) (v := .ref (P.1 (a1 + 3))) rfl jin_X4 (by decide) rfl jf_X11_164 (fun tA => LC_lw hb4 tA _ _) rfl dX11_factsThatMatter_18 ?_
      refine j_iload_n o dX11_factsThatMatter_21 rfl ?_
      obtain ⟨hb5, h⟩ := h
      obtain ⟨nnhb5, hchb5, hihb5⟩ := hb5
      refine j_iald o (g := a1 + 3) (fun tA => LC_ia hchb5 tA _ _) hihb5 dX11_factsThatMatter_22 ?_
      refine j_aload_n o dX11_factsThatMatter_23 rfl ?_
      obtain ⟨hb6, h⟩ := h
      refine j_getf o (g := a1) (slot := 3) (ci := 4) (v := .ref (P.1 (a1 + 3))) rfl jin_X4 (by decide) rfl jf_X11_164 (fun tA => LC_lw hb6 tA _ _) rfl dX11_factsThatMatter_24 ?_
      refine j_iload_n o dX11_factsThatMatter_27 rfl ?_
      refine j_iconst o (v := 1) dX11_factsThatMatter_28 rfl ?_
      refine j_iload o dX11_factsThatMatter_29 rfl ?_
      refine j_ishl o dX11_factsThatMatter_31 ?_
      refine j_ixor o dX11_factsThatMatter_32 ?_
      obtain ⟨hb7, h⟩ := h
      obtain ⟨nnhb7, hchb7, hihb7⟩ := hb7
      refine j_iald o (g := a1 + 3) (fun tA => LC_ia hchb7 tA _ _) hihb7 dX11_factsThatMatter_33 ?_
      replace h := h (fun (x8 : Int32) => J X P M N 0 0 E 5 44 [(0, .ref (P.1 1)), (1, .ref (P.1 a1)), (2, .int a2), (3, .int x8), (4, .int x2)] []) (by
        intro x8 h
        refine j_iinc o (v := x2 + 1) [(4, .int (x2 + 1)), (0, .ref (P.1 1)), (1, .ref (P.1 a1)), (2, .int a2), (3, .int x8)] dX11_factsThatMatter_44 rfl rfl (by decide) rfl ?_
        refine j_goto o (tgt := 5) dX11_factsThatMatter_47 (by decide) ?_
        exact j_pick [1, 2, 3, 4, 0] rfl h)
      refine j_icmp_eq o (tgt := 44) dX11_factsThatMatter_34 (by decide) (fun c9 => ?_) (fun c9 => ?_)
      · replace h := h.1 c9
        exact j_pick [0, 1, 2, 3, 4] rfl h
      · replace h := h.2 c9
        refine j_iload_n o dX11_factsThatMatter_37 rfl ?_
        refine j_iconst o (v := 1) dX11_factsThatMatter_38 rfl ?_
        refine j_iload o dX11_factsThatMatter_39 rfl ?_
        refine j_ishl o dX11_factsThatMatter_41 ?_
        refine j_ior o dX11_factsThatMatter_42 ?_
        refine j_istore_n o [(3, .int (x1 ||| ((1 : Int32) <<< (x2 &&& 31)))), (0, .ref (P.1 1)), (1, .ref (P.1 a1)), (2, .int a2), (4, .int x2)] dX11_factsThatMatter_43 (by decide) rfl ?_
        exact j_pick [1, 2, 3, 0, 4] rfl h)
  exact j_pick [2, 3, 4, 1, 0] rfl h

abbrev rm_X11_matters : Room := { frames := 1, cells := 0, slots := 0, locals := 24 }
def w_X11_matters (P : jP) (a1 : Int32) (a2 : Int32) (M : jM) (Q : Int32 → Prop) : Prop :=
  w_X11_lawAt P a1 M (fun r1 =>
  (r1 = 0 → (
   Q (-1)
  )) ∧ (r1 ≠ 0 → (
   (a2 < 0 → (
    Q (-1)
   )) ∧ (¬ a2 < 0 → (
    (a2 ≤ 1 → (
     ∀ R36 : Int32 → Int32 → Int32 → Prop, (∀ (x7 : Int32) (x8 : Int32) (x9 : Int32), (
      ((M 2 2) ≤ x9 → (
       (¬ a2 = 0 → (
        Q x8
       )) ∧ (a2 = 0 → (
        Q x7
       ))
      )) ∧ (¬ (M 2 2) ≤ x9 → (
       w_X11_factsThatMatter P r1 x9 M (fun r12 =>
       R36 (x7 ||| r12) (x8 &&& r12) (x9 + 1))
      ))
     ) → R36 x7 x8 x9) →
     R36 0 (M 2 1) 0
    )) ∧ (¬ a2 ≤ 1 → (
     Q (-1)
    ))
   ))
  )))
set_option maxRecDepth 20000 in
theorem c_X11_matters (l : Launch) (P : jP) (a1 : Int32) (a2 : Int32) (M : jM) (N : jN) (Q : Int32 → Prop) (h : w_X11_matters P a1 a2 M Q) : jC l yX11_matters cX11_matters 8 (some .int) rm_X11_matters LC [.ref (P.1 1), .int a1, .int a2] P M N (jqi P (fun r M' N' => M = M' ∧ N = N' ∧ Q r )) := by
  refine jC_of (by decide +kernel) [(0, .ref (P.1 1)), (1, .int a1), (2, .int a2)] (Nat.le_of_ble_eq_true rfl) rfl (fun X o => ?_)
  obtain ⟨E, hE⟩ : ∃ E, E = jE X rm_X11_matters (jqi P (fun r M' N' => M = M' ∧ N = N' ∧ Q r )) := ⟨_, rfl⟩
  rw [← hE]
  unfold w_X11_matters at h
  refine j_aload_n o dX11_matters_0 rfl ?_
  refine j_iload_n o dX11_matters_1 rfl ?_
  refine j_callVr (g := 1) (ci := 11) o (c_X11_lawAt l P a1 M N _ h) dX11_matters_2 jc_X11_191 jn_X11_lawAt rfl rfl rfl (fun _ => rfl) rfl rfl (fun r1 Mz2 Nz3 h => ?_)
  obtain ⟨rfl, rfl, h⟩ := h
  refine j_qstore_n o [(3, jrf P r1), (0, .ref (P.1 1)), (1, .int a1), (2, .int a2)] dX11_matters_5 (by decide) rfl ?_
  refine j_qload_n o (g := r1) rfl dX11_matters_6 ?_
  refine j_null2 o (tgt := 19) dX11_matters_7 (by decide) (fun c4 => ?_) (fun c4 => ?_)
  · replace h := h.1 c4
    refine j_iconst o (v := (-1)) dX11_matters_19 rfl ?_
    rw [hE]
    exact j_iret o dX11_matters_20 ⟨_, rfl, rfl, rfl, rfl, h⟩
  · replace h := h.2 c4
    try rw [jrf_n P c4]
    refine j_iload_n o dX11_matters_10 rfl ?_
    refine j_if_lt o (tgt := 19) dX11_matters_11 (by decide) (fun c5 => ?_) (fun c5 => ?_)
    · replace h := h.1 c5
      refine j_iconst o (v := (-1)) dX11_matters_19 rfl ?_
      rw [hE]
      exact j_iret o dX11_matters_20 ⟨_, rfl, rfl, rfl, rfl, h⟩
    · replace h := h.2 c5
      refine j_iload_n o dX11_matters_14 rfl ?_
      refine j_iconst o (v := 1) dX11_matters_15 rfl ?_
      refine j_icmp_le o (tgt := 21) dX11_matters_16 (by decide) (fun c6 => ?_) (fun c6 => ?_)
      · replace h := h.1 c6
        refine j_iconst o (v := 0) dX11_matters_21 rfl ?_
        refine j_istore o [(4, .int 0), (3, .ref (P.1 r1)), (0, .ref (P.1 1)), (1, .int a1), (2, .int a2)] dX11_matters_22 (by decide) rfl ?_
        refine j_aload_n o dX11_matters_24 rfl ?_
        refine j_getf o (g := 1) (slot := 0) (ci := 11) (v := .ref (P.1 2)) rfl jin_X11 (by decide) rfl jf_X11_23 (fun _ => rfl) rfl dX11_matters_25 ?_
        refine j_getf o (g := 2) (slot := 1) (ci := 3) (v := .int (M 2 1)) rfl jin_X3 (by decide) rfl jf_X11_217 (fun _ => rfl) rfl dX11_matters_28 ?_
        refine j_istore o [(5, .int (M 2 1)), (4, .int 0), (3, .ref (P.1 r1)), (0, .ref (P.1 1)), (1, .int a1), (2, .int a2)] dX11_matters_31 (by decide) rfl ?_
        refine j_iconst o (v := 0) dX11_matters_33 rfl ?_
        refine j_istore o [(6, .int 0), (5, .int (M 2 1)), (4, .int 0), (3, .ref (P.1 r1)), (0, .ref (P.1 1)), (1, .int a1), (2, .int a2)] dX11_matters_34 (by decide) rfl ?_
        replace h := h (fun (x7 : Int32) (x8 : Int32) (x9 : Int32) => J X P M N 0 0 E 8 36 [(0, .ref (P.1 1)), (2, .int a2), (3, .ref (P.1 r1)), (4, .int x7), (5, .int x8), (6, .int x9)] []) (by
          intro x7 x8 x9 h
          refine j_iload o dX11_matters_36 rfl ?_
          refine j_aload_n o dX11_matters_38 rfl ?_
          refine j_getf o (g := 1) (slot := 0) (ci := 11) (v := .ref (P.1 2)) rfl jin_X11 (by decide) rfl jf_X11_23 (fun _ => rfl) rfl dX11_matters_39 ?_
          refine j_getf o (g := 2) (slot := 2) (ci := 3) (v := .int (M 2 2)) rfl jin_X3 (by decide) rfl jf_X11_77 (fun _ => rfl) rfl dX11_matters_42 ?_
          refine j_icmp_ge o (tgt := 77) dX11_matters_45 (by decide) (fun c10 => ?_) (fun c10 => ?_)
          · replace h := h.1 c10
            refine j_iload_n o dX11_matters_77 rfl ?_
            refine j_if_ne o (tgt := 86) dX11_matters_78 (by decide) (fun c11 => ?_) (fun c11 => ?_)
            · replace h := h.1 c11
              refine j_iload o dX11_matters_86 rfl ?_
              rw [hE]
              exact j_iret o dX11_matters_88 ⟨_, rfl, rfl, rfl, rfl, h⟩
            · replace h := h.2 c11
              refine j_iload o dX11_matters_81 rfl ?_
              refine j_goto o (tgt := 88) dX11_matters_83 (by decide) ?_
              rw [hE]
              exact j_iret o dX11_matters_88 ⟨_, rfl, rfl, rfl, rfl, h⟩
          · replace h := h.2 c10
            refine j_aload_n o dX11_matters_48 rfl ?_
            refine j_aload_n o dX11_matters_49 rfl ?_
            refine j_iload o dX11_matters_50 rfl ?_
            refine j_callVi (g := 1) (ci := 11) o (c_X11_factsThatMatter l P r1 x9 M N _ h) dX11_matters_52 jc_X11_220 jn_X11_factsThatMatter rfl rfl rfl (fun _ => rfl) rfl rfl (fun r12 Mz13 Nz14 h => ?_)
            obtain ⟨rfl, rfl, h⟩ := h
            refine j_istore o [(7, .int r12), (0, .ref (P.1 1)), (2, .int a2), (3, .ref (P.1 r1)), (4, .int x7), (5, .int x8), (6, .int x9)] dX11_matters_55 (by decide) rfl ?_
            refine j_iload o dX11_matters_57 rfl ?_
            refine j_iload o dX11_matters_59 rfl ?_
            refine j_ior o dX11_matters_61 ?_
            refine j_istore o [(4, .int (x7 ||| r12)), (7, .int r12), (0, .ref (P.1 1)), (2, .int a2), (3, .ref (P.1 r1)), (5, .int x8), (6, .int x9)] dX11_matters_62 (by decide) rfl ?_
            refine j_iload o dX11_matters_64 rfl ?_
            refine j_iload o dX11_matters_66 rfl ?_
            refine j_iand o dX11_matters_68 ?_
            refine j_istore o [(5, .int (x8 &&& r12)), (4, .int (x7 ||| r12)), (7, .int r12), (0, .ref (P.1 1)), (2, .int a2), (3, .ref (P.1 r1)), (6, .int x9)] dX11_matters_69 (by decide) rfl ?_
            refine j_iinc o (v := x9 + 1) [(6, .int (x9 + 1)), (5, .int (x8 &&& r12)), (4, .int (x7 ||| r12)), (7, .int r12), (0, .ref (P.1 1)), (2, .int a2), (3, .ref (P.1 r1))] dX11_matters_71 rfl rfl (by decide) rfl ?_
            refine j_goto o (tgt := 36) dX11_matters_74 (by decide) ?_
            exact j_pick [4, 5, 6, 2, 1, 0] rfl h)
        exact j_pick [4, 6, 3, 2, 1, 0] rfl h
      · replace h := h.2 c6
        refine j_iconst o (v := (-1)) dX11_matters_19 rfl ?_
        rw [hE]
        exact j_iret o dX11_matters_20 ⟨_, rfl, rfl, rfl, rfl, h⟩

abbrev rm_X11_proof : Room := { frames := 2, cells := 0, slots := 0, locals := 43 }
def w_X11_proof (P : jP) (a1 : Int32) (a2 : Int32) (M : jM) (Q : Int32 → Prop) : Prop :=
  w_X11_lawAt P a1 M (fun r1 =>
  (r1 = 0 → (
   Q (-1)
  )) ∧ (r1 ≠ 0 → (
   w_X3_isCase P a2 M (fun r5 =>
   (¬ r5 = 0 → (
    ∀ R29 : Int32 → Int32 → Prop, (∀ (x9 : Int32) (x10 : Int32), (
     ((M 2 1) < x10 → (
      Q x9
     )) ∧ (¬ (M 2 1) < x10 → (
      w_X11_isAhead P x10 x9 (fun r12 =>
      ∀ R75 : Int32 → Prop, (∀ (x15 : Int32), (
       R29 x15 (x10 + 1)
      ) → R75 x15) →
      (r12 = 0 → (
       R75 x9
      )) ∧ (¬ r12 = 0 → (
       w_X3_place P x10 (a2 &&& x10) M (fun r17 =>
       cLw P r1 = true ∧
       w_X4_isSureAt P r1 r17 M (fun r20 =>
       (r20 = 0 → (
        R75 x9
       )) ∧ (¬ r20 = 0 → (
        R75 x10
       ))))
      )))
     ))
    ) → R29 x9 x10) →
    R29 (-1) 0
   )) ∧ (r5 = 0 → (
    Q (-1)
   )))
  )))
set_option maxRecDepth 20000 in
theorem c_X11_proof (l : Launch) (P : jP) (a1 : Int32) (a2 : Int32) (M : jM) (N : jN) (Q : Int32 → Prop) (h : w_X11_proof P a1 a2 M Q) : jC l yX11_proof cX11_proof 6 (some .int) rm_X11_proof LC [.ref (P.1 1), .int a1, .int a2] P M N (jqi P (fun r M' N' => M = M' ∧ N = N' ∧ Q r )) := by
  refine jC_of (by decide +kernel) [(0, .ref (P.1 1)), (1, .int a1), (2, .int a2)] (Nat.le_of_ble_eq_true rfl) rfl (fun X o => ?_)
  obtain ⟨E, hE⟩ : ∃ E, E = jE X rm_X11_proof (jqi P (fun r M' N' => M = M' ∧ N = N' ∧ Q r )) := ⟨_, rfl⟩
  rw [← hE]
  unfold w_X11_proof at h
  refine j_aload_n o dX11_proof_0 rfl ?_
  refine j_iload_n o dX11_proof_1 rfl ?_
  refine j_callVr (g := 1) (ci := 11) o (c_X11_lawAt l P a1 M N _ h) dX11_proof_2 jc_X11_191 jn_X11_lawAt rfl rfl rfl (fun _ => rfl) rfl rfl (fun r1 Mz2 Nz3 h => ?_)
  obtain ⟨rfl, rfl, h⟩ := h
  refine j_qstore_n o [(3, jrf P r1), (0, .ref (P.1 1)), (1, .int a1), (2, .int a2)] dX11_proof_5 (by decide) rfl ?_
  refine j_qload_n o (g := r1) rfl dX11_proof_6 ?_
  refine j_null2 o (tgt := 21) dX11_proof_7 (by decide) (fun c4 => ?_) (fun c4 => ?_)
  · replace h := h.1 c4
    refine j_iconst o (v := (-1)) dX11_proof_21 rfl ?_
    rw [hE]
    exact j_iret o dX11_proof_22 ⟨_, rfl, rfl, rfl, rfl, h⟩
  · replace h := h.2 c4
    try rw [jrf_n P c4]
    refine j_aload_n o dX11_proof_10 rfl ?_
    refine j_getf o (g := 1) (slot := 0) (ci := 11) (v := .ref (P.1 2)) rfl jin_X11 (by decide) rfl jf_X11_23 (fun _ => rfl) rfl dX11_proof_11 ?_
    refine j_iload_n o dX11_proof_14 rfl ?_
    refine j_callVi (g := 2) (ci := 3) o (c_X3_isCase l P a2 M N _ h) dX11_proof_15 jc_X11_195 jn_X3_isCase rfl rfl rfl (fun _ => rfl) rfl rfl (fun r5 Mz6 Nz7 h => ?_)
    obtain ⟨rfl, rfl, h⟩ := h
    refine j_if_ne o (tgt := 23) dX11_proof_18 (by decide) (fun c8 => ?_) (fun c8 => ?_)
    · replace h := h.1 c8
      refine j_iconst o (v := (-1)) dX11_proof_23 rfl ?_
      refine j_istore o [(4, .int (-1)), (3, .ref (P.1 r1)), (0, .ref (P.1 1)), (1, .int a1), (2, .int a2)] dX11_proof_24 (by decide) rfl ?_
      refine j_iconst o (v := 0) dX11_proof_26 rfl ?_
      refine j_istore o [(5, .int 0), (4, .int (-1)), (3, .ref (P.1 r1)), (0, .ref (P.1 1)), (1, .int a1), (2, .int a2)] dX11_proof_27 (by decide) rfl ?_
      replace h := h (fun (x9 : Int32) (x10 : Int32) => J X P M N 0 0 E 6 29 [(0, .ref (P.1 1)), (2, .int a2), (3, .ref (P.1 r1)), (4, .int x9), (5, .int x10)] []) (by
        intro x9 x10 h
        refine j_iload o dX11_proof_29 rfl ?_
        refine j_aload_n o dX11_proof_31 rfl ?_
        refine j_getf o (g := 1) (slot := 0) (ci := 11) (v := .ref (P.1 2)) rfl jin_X11 (by decide) rfl jf_X11_23 (fun _ => rfl) rfl dX11_proof_32 ?_
        refine j_getf o (g := 2) (slot := 1) (ci := 3) (v := .int (M 2 1)) rfl jin_X3 (by decide) rfl jf_X11_217 (fun _ => rfl) rfl dX11_proof_35 ?_
        refine j_icmp_gt o (tgt := 81) dX11_proof_38 (by decide) (fun c11 => ?_) (fun c11 => ?_)
        · replace h := h.1 c11
          refine j_iload o dX11_proof_81 rfl ?_
          rw [hE]
          exact j_iret o dX11_proof_83 ⟨_, rfl, rfl, rfl, rfl, h⟩
        · replace h := h.2 c11
          refine j_iload o dX11_proof_41 rfl ?_
          refine j_iload o dX11_proof_43 rfl ?_
          refine j_callSi o (c_X11_isAhead l P x10 x9 M N _ h) dX11_proof_45 jc_X11_227 jn_X11_isAhead rfl rfl rfl rfl (fun r12 Mz13 Nz14 h => ?_)
          obtain ⟨rfl, rfl, h⟩ := h
          replace h := h (fun (x15 : Int32) => J X P M N 0 0 E 6 75 [(0, .ref (P.1 1)), (2, .int a2), (3, .ref (P.1 r1)), (4, .int x15), (5, .int x10)] []) (by
            intro x15 h
            refine j_iinc o (v := x10 + 1) [(5, .int (x10 + 1)), (0, .ref (P.1 1)), (2, .int a2), (3, .ref (P.1 r1)), (4, .int x15)] dX11_proof_75 rfl rfl (by decide) rfl ?_
            refine j_goto o (tgt := 29) dX11_proof_78 (by decide) ?_
            exact j_pick [1, 2, 3, 4, 0] rfl h)
          refine j_if_eq o (tgt := 75) dX11_proof_48 (by decide) (fun c16 => ?_) (fun c16 => ?_)
          · replace h := h.1 c16
            exact j_pick [0, 1, 2, 3, 4] rfl h
          · replace h := h.2 c16
            refine j_aload_n o dX11_proof_51 rfl ?_
            refine j_aload_n o dX11_proof_52 rfl ?_
            refine j_getf o (g := 1) (slot := 0) (ci := 11) (v := .ref (P.1 2)) rfl jin_X11 (by decide) rfl jf_X11_23 (fun _ => rfl) rfl dX11_proof_53 ?_
            refine j_iload o dX11_proof_56 rfl ?_
            refine j_iload_n o dX11_proof_58 rfl ?_
            refine j_iload o dX11_proof_59 rfl ?_
            refine j_iand o dX11_proof_61 ?_
            refine j_callVi (g := 2) (ci := 3) o (c_X3_place l P x10 (a2 &&& x10) M N _ h) dX11_proof_62 jc_X11_211 jn_X3_place rfl rfl rfl (fun _ => rfl) rfl rfl (fun r17 Mz18 Nz19 h => ?_)
            obtain ⟨rfl, rfl, h⟩ := h
            obtain ⟨hb23, h⟩ := h
            refine j_callVi (g := r1) (ci := 4) o (c_X4_isSureAt l P r1 r17 M N _ h) dX11_proof_65 jc_X11_230 jn_X4_isSureAt rfl rfl rfl (fun tA => LC_lw hb23 tA _ _) rfl rfl (fun r20 Mz21 Nz22 h => ?_)
            obtain ⟨rfl, rfl, h⟩ := h
            refine j_if_eq o (tgt := 75) dX11_proof_68 (by decide) (fun c24 => ?_) (fun c24 => ?_)
            · replace h := h.1 c24
              exact j_pick [0, 1, 2, 3, 4] rfl h
            · replace h := h.2 c24
              refine j_iload o dX11_proof_71 rfl ?_
              refine j_istore o [(4, .int x10), (0, .ref (P.1 1)), (2, .int a2), (3, .ref (P.1 r1)), (5, .int x10)] dX11_proof_73 (by decide) rfl ?_
              exact j_pick [1, 2, 3, 0, 4] rfl h)
      exact j_pick [3, 5, 2, 1, 0] rfl h
    · replace h := h.2 c8
      refine j_iconst o (v := (-1)) dX11_proof_21 rfl ?_
      rw [hE]
      exact j_iret o dX11_proof_22 ⟨_, rfl, rfl, rfl, rfl, h⟩

abbrev rm_X11_parts : Room := { frames := 2, cells := 0, slots := 0, locals := 47 }
def w_X11_parts (P : jP) (a1 : Int32) (a2 : Int32) (a3 : Int32) (M : jM) (Q : Int32 → jM → Prop) : Prop :=
  w_X11_lawAt P a1 M (fun r1 =>
  w_X11_lawAt P a2 M (fun r4 =>
  (r1 = 0 → (
   Q (-1) M
  )) ∧ (r1 ≠ 0 → (
   (r4 ≠ 0 → (
    cLw P r1 = true ∧
    cLw P r4 = true ∧
    w_X11_hitsOfUnlike P (r1 + 3) (r4 + 3) a3 M (fun r11 M12 =>
    Q r11 M12)
   )) ∧ (r4 = 0 → (
    Q (-1) M
   ))
  ))))
set_option maxRecDepth 20000 in
theorem c_X11_parts (l : Launch) (P : jP) (a1 : Int32) (a2 : Int32) (a3 : Int32) (M : jM) (N : jN) (Q : Int32 → jM → Prop) (h : w_X11_parts P a1 a2 a3 M Q) : jC l yX11_parts cX11_parts 6 (some .int) rm_X11_parts LC [.ref (P.1 1), .int a1, .int a2, .int a3] P M N (jqi P (fun r M' N' => N = N' ∧ Q r M' )) := by
  refine jC_of (by decide +kernel) [(0, .ref (P.1 1)), (1, .int a1), (2, .int a2), (3, .int a3)] (Nat.le_of_ble_eq_true rfl) rfl (fun X o => ?_)
  obtain ⟨E, hE⟩ : ∃ E, E = jE X rm_X11_parts (jqi P (fun r M' N' => N = N' ∧ Q r M' )) := ⟨_, rfl⟩
  rw [← hE]
  unfold w_X11_parts at h
  refine j_aload_n o dX11_parts_0 rfl ?_
  refine j_iload_n o dX11_parts_1 rfl ?_
  refine j_callVr (g := 1) (ci := 11) o (c_X11_lawAt l P a1 M N _ h) dX11_parts_2 jc_X11_191 jn_X11_lawAt rfl rfl rfl (fun _ => rfl) rfl rfl (fun r1 Mz2 Nz3 h => ?_)
  obtain ⟨rfl, rfl, h⟩ := h
  refine j_qstore o [(4, jrf P r1), (0, .ref (P.1 1)), (1, .int a1), (2, .int a2), (3, .int a3)] dX11_parts_5 (by decide) rfl ?_
  refine j_aload_n o dX11_parts_7 rfl ?_
  refine j_iload_n o dX11_parts_8 rfl ?_
  refine j_callVr (g := 1) (ci := 11) o (c_X11_lawAt l P a2 M N _ h) dX11_parts_9 jc_X11_191 jn_X11_lawAt rfl rfl rfl (fun _ => rfl) rfl rfl (fun r4 Mz5 Nz6 h => ?_)
  obtain ⟨rfl, rfl, h⟩ := h
  refine j_qstore o [(5, jrf P r4), (4, jrf P r1), (0, .ref (P.1 1)), (1, .int a1), (2, .int a2), (3, .int a3)] dX11_parts_12 (by decide) (by simp [jst1, jst2, jrf_cat]) ?_
  refine j_qload o (g := r1) rfl dX11_parts_14 ?_
  refine j_null2 o (tgt := 24) dX11_parts_16 (by decide) (fun c7 => ?_) (fun c7 => ?_)
  · replace h := h.1 c7
    refine j_iconst o (v := (-1)) dX11_parts_24 rfl ?_
    refine j_goto o (tgt := 43) dX11_parts_25 (by decide) ?_
    rw [hE]
    exact j_iret o dX11_parts_43 ⟨_, rfl, rfl, rfl, h⟩
  · replace h := h.2 c7
    try rw [jrf_n P c7]
    refine j_qload o (g := r4) rfl dX11_parts_19 ?_
    refine j_nonnull2 o (tgt := 28) dX11_parts_21 (by decide) (fun c8 => ?_) (fun c8 => ?_)
    · replace h := h.1 c8
      try rw [jrf_n P c8]
      refine j_aload_n o dX11_parts_28 rfl ?_
      refine j_aload o dX11_parts_29 rfl ?_
      obtain ⟨hb9, h⟩ := h
      refine j_getf o (g := r1) (slot := 3) (ci := 4) (v := .ref (P.1 (r1 + 3))) rfl jin_X4 (by decide) rfl jf_X11_164 (fun tA => LC_lw hb9 tA _ _) rfl dX11_parts_31 ?_
      refine j_aload o dX11_parts_34 rfl ?_
      obtain ⟨hb10, h⟩ := h
      refine j_getf o (g := r4) (slot := 3) (ci := 4) (v := .ref (P.1 (r4 + 3))) rfl jin_X4 (by decide) rfl jf_X11_164 (fun tA => LC_lw hb10 tA _ _) rfl dX11_parts_36 ?_
      refine j_iload_n o dX11_parts_39 rfl ?_
      refine j_callVi (g := 1) (ci := 11) o (c_X11_hitsOfUnlike l P (r1 + 3) (r4 + 3) a3 M N _ h) dX11_parts_40 jc_X11_233 jn_X11_hitsOfUnlike rfl rfl rfl (fun _ => rfl) rfl rfl (fun r11 M12 Nz13 h => ?_)
      obtain ⟨rfl, h⟩ := h
      rw [hE]
      exact j_iret o dX11_parts_43 ⟨_, rfl, rfl, rfl, h⟩
    · replace h := h.2 c8
      refine j_iconst o (v := (-1)) dX11_parts_24 rfl ?_
      refine j_goto o (tgt := 43) dX11_parts_25 (by decide) ?_
      rw [hE]
      exact j_iret o dX11_parts_43 ⟨_, rfl, rfl, rfl, h⟩

abbrev rm_X11_apart : Room := { frames := 3, cells := 0, slots := 0, locals := 67 }
def w_X11_apart (P : jP) (a1 : Int32) (a2 : Int32) (a3 : Int32) (M : jM) (Q : Int32 → jM → Prop) : Prop :=
  w_X11_formAt P a1 M (fun r1 =>
  w_X11_lawAt P a2 M (fun r4 =>
  (r1 = 0 → (
   Q (-1) M
  )) ∧ (r1 ≠ 0 → (
   (r4 ≠ 0 → (
    ∀ R32 : Int32 → Int32 → jM → Prop, (∀ (x9 : Int32) (x10 : Int32) (M11 : jM), (
     ((M11 2 2) ≤ x10 → (
      w_X11_hit P x9 a3 M11 (fun r13 =>
      Q r13 M11)
     )) ∧ (¬ (M11 2 2) ≤ x10 → (
      cFm P r1 = true ∧
      w_X2_outcomeOn P r1 x10 M11 (fun r16 =>
      cLw P r4 = true ∧
      jin P (r4 + 3) x10 ∧
      ∀ R74 : Int32 → jM → Prop, (∀ (x22 : Int32) (M23 : jM), (
       R32 x22 (x10 + 1) M23
      ) → R74 x22 M23) →
      (r16 = (M11 (r4 + 3) x10.toNatClampNeg) → (
       R74 x9 M11
      )) ∧ (¬ r16 = (M11 (r4 + 3) x10.toNatClampNeg) → (
       vp_in x9 (P.2.2 1) ∧
       R74 (x9 + 1) (upM M11 13 x9.toNatClampNeg x10)
      )))
     ))
    ) → R32 x9 x10 M11) →
    R32 0 0 M
   )) ∧ (r4 = 0 → (
    Q (-1) M
   ))
  ))))
set_option maxRecDepth 20000 in
theorem c_X11_apart (l : Launch) (P : jP) (a1 : Int32) (a2 : Int32) (a3 : Int32) (M : jM) (N : jN) (Q : Int32 → jM → Prop) (h : w_X11_apart P a1 a2 a3 M Q) : jC l yX11_apart cX11_apart 8 (some .int) rm_X11_apart LC [.ref (P.1 1), .int a1, .int a2, .int a3] P M N (jqi P (fun r M' N' => N = N' ∧ Q r M' )) := by
  refine jC_of (by decide +kernel) [(0, .ref (P.1 1)), (1, .int a1), (2, .int a2), (3, .int a3)] (Nat.le_of_ble_eq_true rfl) rfl (fun X o => ?_)
  obtain ⟨E, hE⟩ : ∃ E, E = jE X rm_X11_apart (jqi P (fun r M' N' => N = N' ∧ Q r M' )) := ⟨_, rfl⟩
  rw [← hE]
  unfold w_X11_apart at h
  refine j_aload_n o dX11_apart_0 rfl ?_
  refine j_iload_n o dX11_apart_1 rfl ?_
  refine j_callVr (g := 1) (ci := 11) o (c_X11_formAt l P a1 M N _ h) dX11_apart_2 jc_X11_237 jn_X11_formAt rfl rfl rfl (fun _ => rfl) rfl rfl (fun r1 Mz2 Nz3 h => ?_)
  obtain ⟨rfl, rfl, h⟩ := h
  refine j_qstore o [(4, jrf P r1), (0, .ref (P.1 1)), (1, .int a1), (2, .int a2), (3, .int a3)] dX11_apart_5 (by decide) rfl ?_
  refine j_aload_n o dX11_apart_7 rfl ?_
  refine j_iload_n o dX11_apart_8 rfl ?_
  refine j_callVr (g := 1) (ci := 11) o (c_X11_lawAt l P a2 M N _ h) dX11_apart_9 jc_X11_191 jn_X11_lawAt rfl rfl rfl (fun _ => rfl) rfl rfl (fun r4 Mz5 Nz6 h => ?_)
  obtain ⟨rfl, rfl, h⟩ := h
  refine j_qstore o [(5, jrf P r4), (4, jrf P r1), (0, .ref (P.1 1)), (1, .int a1), (2, .int a2), (3, .int a3)] dX11_apart_12 (by decide) (by simp [jst1, jst2, jrf_cat]) ?_
  refine j_qload o (g := r1) rfl dX11_apart_14 ?_
  refine j_null2 o (tgt := 24) dX11_apart_16 (by decide) (fun c7 => ?_) (fun c7 => ?_)
  · replace h := h.1 c7
    refine j_iconst o (v := (-1)) dX11_apart_24 rfl ?_
    rw [hE]
    exact j_iret o dX11_apart_25 ⟨_, rfl, rfl, rfl, h⟩
  · replace h := h.2 c7
    try rw [jrf_n P c7]
    refine j_qload o (g := r4) rfl dX11_apart_19 ?_
    refine j_nonnull2 o (tgt := 26) dX11_apart_21 (by decide) (fun c8 => ?_) (fun c8 => ?_)
    · replace h := h.1 c8
      try rw [jrf_n P c8]
      refine j_iconst o (v := 0) dX11_apart_26 rfl ?_
      refine j_istore o [(6, .int 0), (5, .ref (P.1 r4)), (4, .ref (P.1 r1)), (0, .ref (P.1 1)), (1, .int a1), (2, .int a2), (3, .int a3)] dX11_apart_27 (by decide) rfl ?_
      refine j_iconst o (v := 0) dX11_apart_29 rfl ?_
      refine j_istore o [(7, .int 0), (6, .int 0), (5, .ref (P.1 r4)), (4, .ref (P.1 r1)), (0, .ref (P.1 1)), (1, .int a1), (2, .int a2), (3, .int a3)] dX11_apart_30 (by decide) rfl ?_
      replace h := h (fun (x9 : Int32) (x10 : Int32) (M11 : jM) => J X P M11 N 0 0 E 8 32 [(0, .ref (P.1 1)), (3, .int a3), (4, .ref (P.1 r1)), (5, .ref (P.1 r4)), (6, .int x9), (7, .int x10)] []) (by
        intro x9 x10 M11 h
        refine j_iload o dX11_apart_32 rfl ?_
        refine j_aload_n o dX11_apart_34 rfl ?_
        refine j_getf o (g := 1) (slot := 0) (ci := 11) (v := .ref (P.1 2)) rfl jin_X11 (by decide) rfl jf_X11_23 (fun _ => rfl) rfl dX11_apart_35 ?_
        refine j_getf o (g := 2) (slot := 2) (ci := 3) (v := .int (M11 2 2)) rfl jin_X3 (by decide) rfl jf_X11_77 (fun _ => rfl) rfl dX11_apart_38 ?_
        refine j_icmp_ge o (tgt := 80) dX11_apart_41 (by decide) (fun c12 => ?_) (fun c12 => ?_)
        · replace h := h.1 c12
          refine j_aload_n o dX11_apart_80 rfl ?_
          refine j_iload o dX11_apart_81 rfl ?_
          refine j_iload_n o dX11_apart_83 rfl ?_
          refine j_callVi (g := 1) (ci := 11) o (c_X11_hit l P x9 a3 M11 N _ h) dX11_apart_84 jc_X11_204 jn_X11_hit rfl rfl rfl (fun _ => rfl) rfl rfl (fun r13 Mz14 Nz15 h => ?_)
          obtain ⟨rfl, rfl, h⟩ := h
          rw [hE]
          exact j_iret o dX11_apart_87 ⟨_, rfl, rfl, rfl, h⟩
        · replace h := h.2 c12
          refine j_aload o dX11_apart_44 rfl ?_
          refine j_iload o dX11_apart_46 rfl ?_
          obtain ⟨hb19, h⟩ := h
          refine j_callVi (g := r1) (ci := 2) o (c_X2_outcomeOn l P r1 x10 M11 N _ h) dX11_apart_48 jc_X11_241 jn_X2_outcomeOn rfl rfl rfl (fun tA => LC_fm hb19 tA _ _) rfl rfl (fun r16 Mz17 Nz18 h => ?_)
          obtain ⟨rfl, rfl, h⟩ := h
          refine j_aload o dX11_apart_51 rfl ?_
          obtain ⟨hb20, h⟩ := h
          refine j_getf o (g := r4) (slot := 3) (ci := 4) (v := .ref (P.1 (r4 + 3))) rfl jin_X4 (by decide) rfl jf_X11_164 (fun tA => LC_lw hb20 tA _ _) rfl dX11_apart_53 ?_
          refine j_iload o dX11_apart_56 rfl ?_
          obtain ⟨hb21, h⟩ := h
          obtain ⟨nnhb21, hchb21, hihb21⟩ := hb21
          refine j_iald o (g := r4 + 3) (fun tA => LC_ia hchb21 tA _ _) hihb21 dX11_apart_58 ?_
          replace h := h (fun (x22 : Int32) (M23 : jM) => J X P M23 N 0 0 E 8 74 [(0, .ref (P.1 1)), (3, .int a3), (4, .ref (P.1 r1)), (5, .ref (P.1 r4)), (6, .int x22), (7, .int x10)] []) (by
            intro x22 M23 h
            refine j_iinc o (v := x10 + 1) [(7, .int (x10 + 1)), (0, .ref (P.1 1)), (3, .int a3), (4, .ref (P.1 r1)), (5, .ref (P.1 r4)), (6, .int x22)] dX11_apart_74 rfl rfl (by decide) rfl ?_
            refine j_goto o (tgt := 32) dX11_apart_77 (by decide) ?_
            exact j_pick [1, 2, 3, 4, 5, 0] rfl h)
          refine j_icmp_eq o (tgt := 74) dX11_apart_59 (by decide) (fun c24 => ?_) (fun c24 => ?_)
          · replace h := h.1 c24
            exact j_pick [0, 1, 2, 3, 4, 5] rfl h
          · replace h := h.2 c24
            refine j_aload_n o dX11_apart_62 rfl ?_
            refine j_getf o (g := 1) (slot := 13) (ci := 11) (v := .ref (P.1 13)) rfl jin_X11 (by decide) rfl jf_X11_105 (fun _ => rfl) rfl dX11_apart_63 ?_
            refine j_iload o dX11_apart_66 rfl ?_
            refine j_iinc o (v := x9 + 1) [(6, .int (x9 + 1)), (0, .ref (P.1 1)), (3, .int a3), (4, .ref (P.1 r1)), (5, .ref (P.1 r4)), (7, .int x10)] dX11_apart_68 rfl rfl (by decide) rfl ?_
            refine j_iload o dX11_apart_71 rfl ?_
            obtain ⟨hb25, h⟩ := h
            refine j_iast o (g := 13) (fun _ _ _ => rfl) hb25 dX11_apart_73 ?_
            exact j_pick [1, 2, 3, 4, 0, 5] rfl h)
      exact j_pick [4, 7, 3, 2, 1, 0] rfl h
    · replace h := h.2 c8
      refine j_iconst o (v := (-1)) dX11_apart_24 rfl ?_
      rw [hE]
      exact j_iret o dX11_apart_25 ⟨_, rfl, rfl, rfl, h⟩

abbrev rm_X11_unlike : Room := { frames := 3, cells := 0, slots := 0, locals := 67 }
def w_X11_unlike (P : jP) (a1 : Int32) (a2 : Int32) (M : jM) (Q : Int32 → Prop) : Prop :=
  w_X11_formAt P a1 M (fun r1 =>
  w_X11_formAt P a2 M (fun r4 =>
  (r1 = 0 → (
   Q (-1)
  )) ∧ (r1 ≠ 0 → (
   (r4 ≠ 0 → (
    ∀ R27 : Int32 → Prop, (∀ (x9 : Int32), (
     ((M 2 2) ≤ x9 → (
      Q (-1)
     )) ∧ (¬ (M 2 2) ≤ x9 → (
      cFm P r1 = true ∧
      w_X2_outcomeOn P r1 x9 M (fun r11 =>
      cFm P r4 = true ∧
      w_X2_outcomeOn P r4 x9 M (fun r15 =>
      (r11 = r15 → (
       R27 (x9 + 1)
      )) ∧ (¬ r11 = r15 → (
       Q x9
      ))))
     ))
    ) → R27 x9) →
    R27 0
   )) ∧ (r4 = 0 → (
    Q (-1)
   ))
  ))))
set_option maxRecDepth 20000 in
theorem c_X11_unlike (l : Launch) (P : jP) (a1 : Int32) (a2 : Int32) (M : jM) (N : jN) (Q : Int32 → Prop) (h : w_X11_unlike P a1 a2 M Q) : jC l yX11_unlike cX11_unlike 6 (some .int) rm_X11_unlike LC [.ref (P.1 1), .int a1, .int a2] P M N (jqi P (fun r M' N' => M = M' ∧ N = N' ∧ Q r )) := by
  refine jC_of (by decide +kernel) [(0, .ref (P.1 1)), (1, .int a1), (2, .int a2)] (Nat.le_of_ble_eq_true rfl) rfl (fun X o => ?_)
  obtain ⟨E, hE⟩ : ∃ E, E = jE X rm_X11_unlike (jqi P (fun r M' N' => M = M' ∧ N = N' ∧ Q r )) := ⟨_, rfl⟩
  rw [← hE]
  unfold w_X11_unlike at h
  refine j_aload_n o dX11_unlike_0 rfl ?_
  refine j_iload_n o dX11_unlike_1 rfl ?_
  refine j_callVr (g := 1) (ci := 11) o (c_X11_formAt l P a1 M N _ h) dX11_unlike_2 jc_X11_237 jn_X11_formAt rfl rfl rfl (fun _ => rfl) rfl rfl (fun r1 Mz2 Nz3 h => ?_)
  obtain ⟨rfl, rfl, h⟩ := h
  refine j_qstore_n o [(3, jrf P r1), (0, .ref (P.1 1)), (1, .int a1), (2, .int a2)] dX11_unlike_5 (by decide) rfl ?_
  refine j_aload_n o dX11_unlike_6 rfl ?_
  refine j_iload_n o dX11_unlike_7 rfl ?_
  refine j_callVr (g := 1) (ci := 11) o (c_X11_formAt l P a2 M N _ h) dX11_unlike_8 jc_X11_237 jn_X11_formAt rfl rfl rfl (fun _ => rfl) rfl rfl (fun r4 Mz5 Nz6 h => ?_)
  obtain ⟨rfl, rfl, h⟩ := h
  refine j_qstore o [(4, jrf P r4), (3, jrf P r1), (0, .ref (P.1 1)), (1, .int a1), (2, .int a2)] dX11_unlike_11 (by decide) (by simp [jst1, jst2, jrf_cat]) ?_
  refine j_qload_n o (g := r1) rfl dX11_unlike_13 ?_
  refine j_null2 o (tgt := 22) dX11_unlike_14 (by decide) (fun c7 => ?_) (fun c7 => ?_)
  · replace h := h.1 c7
    refine j_iconst o (v := (-1)) dX11_unlike_22 rfl ?_
    rw [hE]
    exact j_iret o dX11_unlike_23 ⟨_, rfl, rfl, rfl, rfl, h⟩
  · replace h := h.2 c7
    try rw [jrf_n P c7]
    refine j_qload o (g := r4) rfl dX11_unlike_17 ?_
    refine j_nonnull2 o (tgt := 24) dX11_unlike_19 (by decide) (fun c8 => ?_) (fun c8 => ?_)
    · replace h := h.1 c8
      try rw [jrf_n P c8]
      refine j_iconst o (v := 0) dX11_unlike_24 rfl ?_
      refine j_istore o [(5, .int 0), (4, .ref (P.1 r4)), (3, .ref (P.1 r1)), (0, .ref (P.1 1)), (1, .int a1), (2, .int a2)] dX11_unlike_25 (by decide) rfl ?_
      replace h := h (fun (x9 : Int32) => J X P M N 0 0 E 6 27 [(0, .ref (P.1 1)), (3, .ref (P.1 r1)), (4, .ref (P.1 r4)), (5, .int x9)] []) (by
        intro x9 h
        refine j_iload o dX11_unlike_27 rfl ?_
        refine j_aload_n o dX11_unlike_29 rfl ?_
        refine j_getf o (g := 1) (slot := 0) (ci := 11) (v := .ref (P.1 2)) rfl jin_X11 (by decide) rfl jf_X11_23 (fun _ => rfl) rfl dX11_unlike_30 ?_
        refine j_getf o (g := 2) (slot := 2) (ci := 3) (v := .int (M 2 2)) rfl jin_X3 (by decide) rfl jf_X11_77 (fun _ => rfl) rfl dX11_unlike_33 ?_
        refine j_icmp_ge o (tgt := 64) dX11_unlike_36 (by decide) (fun c10 => ?_) (fun c10 => ?_)
        · replace h := h.1 c10
          refine j_iconst o (v := (-1)) dX11_unlike_64 rfl ?_
          rw [hE]
          exact j_iret o dX11_unlike_65 ⟨_, rfl, rfl, rfl, rfl, h⟩
        · replace h := h.2 c10
          refine j_aload_n o dX11_unlike_39 rfl ?_
          refine j_iload o dX11_unlike_40 rfl ?_
          obtain ⟨hb14, h⟩ := h
          refine j_callVi (g := r1) (ci := 2) o (c_X2_outcomeOn l P r1 x9 M N _ h) dX11_unlike_42 jc_X11_241 jn_X2_outcomeOn rfl rfl rfl (fun tA => LC_fm hb14 tA _ _) rfl rfl (fun r11 Mz12 Nz13 h => ?_)
          obtain ⟨rfl, rfl, h⟩ := h
          refine j_aload o dX11_unlike_45 rfl ?_
          refine j_iload o dX11_unlike_47 rfl ?_
          obtain ⟨hb18, h⟩ := h
          refine j_callVi (g := r4) (ci := 2) o (c_X2_outcomeOn l P r4 x9 M N _ h) dX11_unlike_49 jc_X11_241 jn_X2_outcomeOn rfl rfl rfl (fun tA => LC_fm hb18 tA _ _) rfl rfl (fun r15 Mz16 Nz17 h => ?_)
          obtain ⟨rfl, rfl, h⟩ := h
          refine j_icmp_eq o (tgt := 58) dX11_unlike_52 (by decide) (fun c19 => ?_) (fun c19 => ?_)
          · replace h := h.1 c19
            refine j_iinc o (v := x9 + 1) [(5, .int (x9 + 1)), (0, .ref (P.1 1)), (3, .ref (P.1 r1)), (4, .ref (P.1 r4))] dX11_unlike_58 rfl rfl (by decide) rfl ?_
            refine j_goto o (tgt := 27) dX11_unlike_61 (by decide) ?_
            exact j_pick [1, 2, 3, 0] rfl h
          · replace h := h.2 c19
            refine j_iload o dX11_unlike_55 rfl ?_
            rw [hE]
            exact j_iret o dX11_unlike_57 ⟨_, rfl, rfl, rfl, rfl, h⟩)
      exact j_pick [3, 2, 1, 0] rfl h
    · replace h := h.2 c8
      refine j_iconst o (v := (-1)) dX11_unlike_22 rfl ?_
      rw [hE]
      exact j_iret o dX11_unlike_23 ⟨_, rfl, rfl, rfl, rfl, h⟩

abbrev rm_X11_spoiled : Room := { frames := 3, cells := 0, slots := 0, locals := 67 }
def w_X11_spoiled (P : jP) (a1 : Int32) (a2 : Int32) (M : jM) (Q : Int32 → Prop) : Prop :=
  w_X11_formAt P a1 M (fun r1 =>
  w_X11_lawAt P a2 M (fun r4 =>
  (r1 = 0 → (
   Q (-1)
  )) ∧ (r1 ≠ 0 → (
   (r4 ≠ 0 → (
    ∀ R30 : Int32 → Int32 → Prop, (∀ (x9 : Int32) (x10 : Int32), (
     ((M 2 2) ≤ x10 → (
      Q x9
     )) ∧ (¬ (M 2 2) ≤ x10 → (
      cFm P r1 = true ∧
      w_X2_outcomeOn P r1 x10 M (fun r12 =>
      cLw P r4 = true ∧
      jin P (r4 + 3) x10 ∧
      ∀ R72 : Int32 → Prop, (∀ (x18 : Int32), (
       R30 x18 (x10 + 1)
      ) → R72 x18) →
      (r12 = (M (r4 + 3) x10.toNatClampNeg) → (
       R72 x9
      )) ∧ (¬ r12 = (M (r4 + 3) x10.toNatClampNeg) → (
       cFm P r1 = true ∧
       w_X2_lastOn P r1 x10 M (fun r20 =>
       R72 (x9 ||| ((1 : Int32) <<< (r20 &&& 31))))
      )))
     ))
    ) → R30 x9 x10) →
    R30 0 0
   )) ∧ (r4 = 0 → (
    Q (-1)
   ))
  ))))
set_option maxRecDepth 20000 in
theorem c_X11_spoiled (l : Launch) (P : jP) (a1 : Int32) (a2 : Int32) (M : jM) (N : jN) (Q : Int32 → Prop) (h : w_X11_spoiled P a1 a2 M Q) : jC l yX11_spoiled cX11_spoiled 7 (some .int) rm_X11_spoiled LC [.ref (P.1 1), .int a1, .int a2] P M N (jqi P (fun r M' N' => M = M' ∧ N = N' ∧ Q r )) := by
  refine jC_of (by decide +kernel) [(0, .ref (P.1 1)), (1, .int a1), (2, .int a2)] (Nat.le_of_ble_eq_true rfl) rfl (fun X o => ?_)
  obtain ⟨E, hE⟩ : ∃ E, E = jE X rm_X11_spoiled (jqi P (fun r M' N' => M = M' ∧ N = N' ∧ Q r )) := ⟨_, rfl⟩
  rw [← hE]
  unfold w_X11_spoiled at h
  refine j_aload_n o dX11_spoiled_0 rfl ?_
  refine j_iload_n o dX11_spoiled_1 rfl ?_
  refine j_callVr (g := 1) (ci := 11) o (c_X11_formAt l P a1 M N _ h) dX11_spoiled_2 jc_X11_237 jn_X11_formAt rfl rfl rfl (fun _ => rfl) rfl rfl (fun r1 Mz2 Nz3 h => ?_)
  obtain ⟨rfl, rfl, h⟩ := h
  refine j_qstore_n o [(3, jrf P r1), (0, .ref (P.1 1)), (1, .int a1), (2, .int a2)] dX11_spoiled_5 (by decide) rfl ?_
  refine j_aload_n o dX11_spoiled_6 rfl ?_
  refine j_iload_n o dX11_spoiled_7 rfl ?_
  refine j_callVr (g := 1) (ci := 11) o (c_X11_lawAt l P a2 M N _ h) dX11_spoiled_8 jc_X11_191 jn_X11_lawAt rfl rfl rfl (fun _ => rfl) rfl rfl (fun r4 Mz5 Nz6 h => ?_)
  obtain ⟨rfl, rfl, h⟩ := h
  refine j_qstore o [(4, jrf P r4), (3, jrf P r1), (0, .ref (P.1 1)), (1, .int a1), (2, .int a2)] dX11_spoiled_11 (by decide) (by simp [jst1, jst2, jrf_cat]) ?_
  refine j_qload_n o (g := r1) rfl dX11_spoiled_13 ?_
  refine j_null2 o (tgt := 22) dX11_spoiled_14 (by decide) (fun c7 => ?_) (fun c7 => ?_)
  · replace h := h.1 c7
    refine j_iconst o (v := (-1)) dX11_spoiled_22 rfl ?_
    rw [hE]
    exact j_iret o dX11_spoiled_23 ⟨_, rfl, rfl, rfl, rfl, h⟩
  · replace h := h.2 c7
    try rw [jrf_n P c7]
    refine j_qload o (g := r4) rfl dX11_spoiled_17 ?_
    refine j_nonnull2 o (tgt := 24) dX11_spoiled_19 (by decide) (fun c8 => ?_) (fun c8 => ?_)
    · replace h := h.1 c8
      try rw [jrf_n P c8]
      refine j_iconst o (v := 0) dX11_spoiled_24 rfl ?_
      refine j_istore o [(5, .int 0), (4, .ref (P.1 r4)), (3, .ref (P.1 r1)), (0, .ref (P.1 1)), (1, .int a1), (2, .int a2)] dX11_spoiled_25 (by decide) rfl ?_
      refine j_iconst o (v := 0) dX11_spoiled_27 rfl ?_
      refine j_istore o [(6, .int 0), (5, .int 0), (4, .ref (P.1 r4)), (3, .ref (P.1 r1)), (0, .ref (P.1 1)), (1, .int a1), (2, .int a2)] dX11_spoiled_28 (by decide) rfl ?_
      replace h := h (fun (x9 : Int32) (x10 : Int32) => J X P M N 0 0 E 7 30 [(0, .ref (P.1 1)), (3, .ref (P.1 r1)), (4, .ref (P.1 r4)), (5, .int x9), (6, .int x10)] []) (by
        intro x9 x10 h
        refine j_iload o dX11_spoiled_30 rfl ?_
        refine j_aload_n o dX11_spoiled_32 rfl ?_
        refine j_getf o (g := 1) (slot := 0) (ci := 11) (v := .ref (P.1 2)) rfl jin_X11 (by decide) rfl jf_X11_23 (fun _ => rfl) rfl dX11_spoiled_33 ?_
        refine j_getf o (g := 2) (slot := 2) (ci := 3) (v := .int (M 2 2)) rfl jin_X3 (by decide) rfl jf_X11_77 (fun _ => rfl) rfl dX11_spoiled_36 ?_
        refine j_icmp_ge o (tgt := 78) dX11_spoiled_39 (by decide) (fun c11 => ?_) (fun c11 => ?_)
        · replace h := h.1 c11
          refine j_iload o dX11_spoiled_78 rfl ?_
          rw [hE]
          exact j_iret o dX11_spoiled_80 ⟨_, rfl, rfl, rfl, rfl, h⟩
        · replace h := h.2 c11
          refine j_aload_n o dX11_spoiled_42 rfl ?_
          refine j_iload o dX11_spoiled_43 rfl ?_
          obtain ⟨hb15, h⟩ := h
          refine j_callVi (g := r1) (ci := 2) o (c_X2_outcomeOn l P r1 x10 M N _ h) dX11_spoiled_45 jc_X11_241 jn_X2_outcomeOn rfl rfl rfl (fun tA => LC_fm hb15 tA _ _) rfl rfl (fun r12 Mz13 Nz14 h => ?_)
          obtain ⟨rfl, rfl, h⟩ := h
          refine j_aload o dX11_spoiled_48 rfl ?_
          obtain ⟨hb16, h⟩ := h
          refine j_getf o (g := r4) (slot := 3) (ci := 4) (v := .ref (P.1 (r4 + 3))) rfl jin_X4 (by decide) rfl jf_X11_164 (fun tA => LC_lw hb16 tA _ _) rfl dX11_spoiled_50 ?_
          refine j_iload o dX11_spoiled_53 rfl ?_
          obtain ⟨hb17, h⟩ := h
          obtain ⟨nnhb17, hchb17, hihb17⟩ := hb17
          refine j_iald o (g := r4 + 3) (fun tA => LC_ia hchb17 tA _ _) hihb17 dX11_spoiled_55 ?_
          replace h := h (fun (x18 : Int32) => J X P M N 0 0 E 7 72 [(0, .ref (P.1 1)), (3, .ref (P.1 r1)), (4, .ref (P.1 r4)), (5, .int x18), (6, .int x10)] []) (by
            intro x18 h
            refine j_iinc o (v := x10 + 1) [(6, .int (x10 + 1)), (0, .ref (P.1 1)), (3, .ref (P.1 r1)), (4, .ref (P.1 r4)), (5, .int x18)] dX11_spoiled_72 rfl rfl (by decide) rfl ?_
            refine j_goto o (tgt := 30) dX11_spoiled_75 (by decide) ?_
            exact j_pick [1, 2, 3, 4, 0] rfl h)
          refine j_icmp_eq o (tgt := 72) dX11_spoiled_56 (by decide) (fun c19 => ?_) (fun c19 => ?_)
          · replace h := h.1 c19
            exact j_pick [0, 1, 2, 3, 4] rfl h
          · replace h := h.2 c19
            refine j_iload o dX11_spoiled_59 rfl ?_
            refine j_iconst o (v := 1) dX11_spoiled_61 rfl ?_
            refine j_aload_n o dX11_spoiled_62 rfl ?_
            refine j_iload o dX11_spoiled_63 rfl ?_
            obtain ⟨hb23, h⟩ := h
            refine j_callVi (g := r1) (ci := 2) o (c_X2_lastOn l P r1 x10 M N _ h) dX11_spoiled_65 jc_X11_244 jn_X2_lastOn rfl rfl rfl (fun tA => LC_fm hb23 tA _ _) rfl rfl (fun r20 Mz21 Nz22 h => ?_)
            obtain ⟨rfl, rfl, h⟩ := h
            refine j_ishl o dX11_spoiled_68 ?_
            refine j_ior o dX11_spoiled_69 ?_
            refine j_istore o [(5, .int (x9 ||| ((1 : Int32) <<< (r20 &&& 31)))), (0, .ref (P.1 1)), (3, .ref (P.1 r1)), (4, .ref (P.1 r4)), (6, .int x10)] dX11_spoiled_70 (by decide) rfl ?_
            exact j_pick [1, 2, 3, 0, 4] rfl h)
      exact j_pick [4, 3, 2, 1, 0] rfl h
    · replace h := h.2 c8
      refine j_iconst o (v := (-1)) dX11_spoiled_22 rfl ?_
      rw [hE]
      exact j_iret o dX11_spoiled_23 ⟨_, rfl, rfl, rfl, rfl, h⟩

abbrev rm_X11_unused : Room := { frames := 2, cells := 0, slots := 0, locals := 46 }
def w_X11_unused (P : jP) (a1 : Int32) (M : jM) (Q : Int32 → Prop) : Prop :=
  w_X11_formAt P a1 M (fun r1 =>
  (r1 ≠ 0 → (
   ∀ R17 : Int32 → Int32 → Prop, (∀ (x5 : Int32) (x6 : Int32), (
    ((M 2 2) ≤ x6 → (
     cFm P r1 = true ∧
     Q ((((1 : Int32) <<< ((M r1 0) &&& 31)) - 1) &&& (x5 ^^^ (-1)))
    )) ∧ (¬ (M 2 2) ≤ x6 → (
     cFm P r1 = true ∧
     w_X2_nodesOn P r1 x6 M (fun r9 =>
     R17 (x5 ||| r9) (x6 + 1))
    ))
   ) → R17 x5 x6) →
   R17 0 0
  )) ∧ (r1 = 0 → (
   Q (-1)
  )))
set_option maxRecDepth 20000 in
theorem c_X11_unused (l : Launch) (P : jP) (a1 : Int32) (M : jM) (N : jN) (Q : Int32 → Prop) (h : w_X11_unused P a1 M Q) : jC l yX11_unused cX11_unused 5 (some .int) rm_X11_unused LC [.ref (P.1 1), .int a1] P M N (jqi P (fun r M' N' => M = M' ∧ N = N' ∧ Q r )) := by
  refine jC_of (by decide +kernel) [(0, .ref (P.1 1)), (1, .int a1)] (Nat.le_of_ble_eq_true rfl) rfl (fun X o => ?_)
  obtain ⟨E, hE⟩ : ∃ E, E = jE X rm_X11_unused (jqi P (fun r M' N' => M = M' ∧ N = N' ∧ Q r )) := ⟨_, rfl⟩
  rw [← hE]
  unfold w_X11_unused at h
  refine j_aload_n o dX11_unused_0 rfl ?_
  refine j_iload_n o dX11_unused_1 rfl ?_
  refine j_callVr (g := 1) (ci := 11) o (c_X11_formAt l P a1 M N _ h) dX11_unused_2 jc_X11_237 jn_X11_formAt rfl rfl rfl (fun _ => rfl) rfl rfl (fun r1 Mz2 Nz3 h => ?_)
  obtain ⟨rfl, rfl, h⟩ := h
  refine j_qstore_n o [(2, jrf P r1), (0, .ref (P.1 1)), (1, .int a1)] dX11_unused_5 (by decide) rfl ?_
  refine j_qload_n o (g := r1) rfl dX11_unused_6 ?_
  refine j_nonnull2 o (tgt := 12) dX11_unused_7 (by decide) (fun c4 => ?_) (fun c4 => ?_)
  · replace h := h.1 c4
    try rw [jrf_n P c4]
    refine j_iconst o (v := 0) dX11_unused_12 rfl ?_
    refine j_istore_n o [(3, .int 0), (2, .ref (P.1 r1)), (0, .ref (P.1 1)), (1, .int a1)] dX11_unused_13 (by decide) rfl ?_
    refine j_iconst o (v := 0) dX11_unused_14 rfl ?_
    refine j_istore o [(4, .int 0), (3, .int 0), (2, .ref (P.1 r1)), (0, .ref (P.1 1)), (1, .int a1)] dX11_unused_15 (by decide) rfl ?_
    replace h := h (fun (x5 : Int32) (x6 : Int32) => J X P M N 0 0 E 5 17 [(0, .ref (P.1 1)), (2, .ref (P.1 r1)), (3, .int x5), (4, .int x6)] []) (by
      intro x5 x6 h
      refine j_iload o dX11_unused_17 rfl ?_
      refine j_aload_n o dX11_unused_19 rfl ?_
      refine j_getf o (g := 1) (slot := 0) (ci := 11) (v := .ref (P.1 2)) rfl jin_X11 (by decide) rfl jf_X11_23 (fun _ => rfl) rfl dX11_unused_20 ?_
      refine j_getf o (g := 2) (slot := 2) (ci := 3) (v := .int (M 2 2)) rfl jin_X3 (by decide) rfl jf_X11_77 (fun _ => rfl) rfl dX11_unused_23 ?_
      refine j_icmp_ge o (tgt := 44) dX11_unused_26 (by decide) (fun c7 => ?_) (fun c7 => ?_)
      · replace h := h.1 c7
        refine j_iconst o (v := 1) dX11_unused_44 rfl ?_
        refine j_aload_n o dX11_unused_45 rfl ?_
        obtain ⟨hb8, h⟩ := h
        refine j_getf o (g := r1) (slot := 0) (ci := 2) (v := .int (M r1 0)) rfl jin_X2 (by decide) rfl jf_X11_250 (fun tA => LC_fm hb8 tA _ _) rfl dX11_unused_46 ?_
        refine j_ishl o dX11_unused_49 ?_
        refine j_iconst o (v := 1) dX11_unused_50 rfl ?_
        refine j_isub o dX11_unused_51 ?_
        refine j_iload_n o dX11_unused_52 rfl ?_
        refine j_iconst o (v := (-1)) dX11_unused_53 rfl ?_
        refine j_ixor o dX11_unused_54 ?_
        refine j_iand o dX11_unused_55 ?_
        rw [hE]
        exact j_iret o dX11_unused_56 ⟨_, rfl, rfl, rfl, rfl, h⟩
      · replace h := h.2 c7
        refine j_iload_n o dX11_unused_29 rfl ?_
        refine j_aload_n o dX11_unused_30 rfl ?_
        refine j_iload o dX11_unused_31 rfl ?_
        obtain ⟨hb12, h⟩ := h
        refine j_callVi (g := r1) (ci := 2) o (c_X2_nodesOn l P r1 x6 M N _ h) dX11_unused_33 jc_X11_247 jn_X2_nodesOn rfl rfl rfl (fun tA => LC_fm hb12 tA _ _) rfl rfl (fun r9 Mz10 Nz11 h => ?_)
        obtain ⟨rfl, rfl, h⟩ := h
        refine j_ior o dX11_unused_36 ?_
        refine j_istore_n o [(3, .int (x5 ||| r9)), (0, .ref (P.1 1)), (2, .ref (P.1 r1)), (4, .int x6)] dX11_unused_37 (by decide) rfl ?_
        refine j_iinc o (v := x6 + 1) [(4, .int (x6 + 1)), (3, .int (x5 ||| r9)), (0, .ref (P.1 1)), (2, .ref (P.1 r1))] dX11_unused_38 rfl rfl (by decide) rfl ?_
        refine j_goto o (tgt := 17) dX11_unused_41 (by decide) ?_
        exact j_pick [2, 3, 1, 0] rfl h)
    exact j_pick [3, 2, 1, 0] rfl h
  · replace h := h.2 c4
    refine j_iconst o (v := (-1)) dX11_unused_10 rfl ?_
    rw [hE]
    exact j_iret o dX11_unused_11 ⟨_, rfl, rfl, rfl, rfl, h⟩

abbrev rm_X11_set : Room := { frames := 1, cells := 0, slots := 0, locals := 23 }
def w_X11_set (P : jP) (a1 : Int32) (a2 : Int32) (a3 : Int32) (M : jM) (Q : Int32 → jM → Prop) : Prop :=
  (¬ a1 = 1 → (
   w_X9_change P a1 a2 a3 (upM M 8 10 1) (fun r2 M3 =>
   jb r2 ∧
   Q r2 M3)
  )) ∧ (a1 = 1 → (
   w_X6_setMinutes P a2 a3 (upM M 8 10 1) (fun r6 M7 =>
   jb r6 ∧
   Q r6 M7)
  ))
set_option maxRecDepth 20000 in
theorem c_X11_set (l : Launch) (P : jP) (a1 : Int32) (a2 : Int32) (a3 : Int32) (M : jM) (N : jN) (Q : Int32 → jM → Prop) (h : w_X11_set P a1 a2 a3 M Q) : jC l yX11_set cX11_set 4 (some .boolean) rm_X11_set LC [.ref (P.1 1), .int a1, .int a2, .int a3] P M N (jqi P (fun r M' N' => N = N' ∧ Q r M' )) := by
  refine jC_of (by decide +kernel) [(0, .ref (P.1 1)), (1, .int a1), (2, .int a2), (3, .int a3)] (Nat.le_of_ble_eq_true rfl) rfl (fun X o => ?_)
  obtain ⟨E, hE⟩ : ∃ E, E = jE X rm_X11_set (jqi P (fun r M' N' => N = N' ∧ Q r M' )) := ⟨_, rfl⟩
  rw [← hE]
  unfold w_X11_set at h
  refine j_aload_n o dX11_set_0 rfl ?_
  refine j_getf o (g := 1) (slot := 6) (ci := 11) (v := .ref (P.1 8)) rfl jin_X11 (by decide) rfl jf_X11_71 (fun _ => rfl) rfl dX11_set_1 ?_
  refine j_iconst o (v := 1) dX11_set_4 rfl ?_
  refine j_putf o (M1 := upM M 8 10 1) (N1 := N) (g := 8) (slot := 10) (ci := 0) (ty := .boolean) rfl jin_X0 tyX0_ok nmX0 (by decide) rfl rfl jf_X11_253 (by decide +kernel) rfl rfl (Nat.le_of_ble_eq_true rfl) (fun _ => rfl) (fun _ => rfl) (fun _ hj => upM_ne _ _ _ hj) (fun _ _ => rfl) dX11_set_5 ?_
  refine j_iload_n o dX11_set_8 rfl ?_
  refine j_iconst o (v := 1) dX11_set_9 rfl ?_
  refine j_icmp_ne o (tgt := 25) dX11_set_10 (by decide) (fun c1 => ?_) (fun c1 => ?_)
  · replace h := h.1 c1
    refine j_aload_n o dX11_set_25 rfl ?_
    refine j_getf o (g := 1) (slot := 4) (ci := 11) (v := .ref (P.1 6)) rfl jin_X11 (by decide) rfl jf_X11_55 (fun _ => rfl) rfl dX11_set_26 ?_
    refine j_iload_n o dX11_set_29 rfl ?_
    refine j_iload_n o dX11_set_30 rfl ?_
    refine j_iload_n o dX11_set_31 rfl ?_
    refine j_callVi (g := 6) (ci := 9) o (c_X9_change l P a1 a2 a3 (upM M 8 10 1) N _ h) dX11_set_32 jc_X11_260 jn_X9_change rfl rfl rfl (fun _ => rfl) rfl rfl (fun r2 M3 Nz4 h => ?_)
    obtain ⟨rfl, h⟩ := h
    obtain ⟨hz5, h⟩ := h
    rw [hE]
    exact j_zret o hz5.1 dX11_set_35 ⟨_, rfl, rfl, rfl, h⟩
  · replace h := h.2 c1
    refine j_aload_n o dX11_set_13 rfl ?_
    refine j_getf o (g := 1) (slot := 7) (ci := 11) (v := .ref (P.1 9)) rfl jin_X11 (by decide) rfl jf_X11_82 (fun _ => rfl) rfl dX11_set_14 ?_
    refine j_iload_n o dX11_set_17 rfl ?_
    refine j_iload_n o dX11_set_18 rfl ?_
    refine j_callVi (g := 9) (ci := 6) o (c_X6_setMinutes l P a2 a3 (upM M 8 10 1) N _ h) dX11_set_19 jc_X11_257 jn_X6_setMinutes rfl rfl rfl (fun _ => rfl) rfl rfl (fun r6 M7 Nz8 h => ?_)
    obtain ⟨rfl, h⟩ := h
    refine j_goto o (tgt := 35) dX11_set_22 (by decide) ?_
    obtain ⟨hz9, h⟩ := h
    rw [hE]
    exact j_zret o hz9.1 dX11_set_35 ⟨_, rfl, rfl, rfl, h⟩

abbrev rm_X11_sort : Room := { frames := 1, cells := 0, slots := 0, locals := 21 }
def w_X11_sort (P : jP) (a1 : Int32) (M : jM) (Q : Int32 → jM → Prop) : Prop :=
  w_X5_added P a1 (upM M 8 10 1) (fun r1 M2 =>
  Q r1 M2)
set_option maxRecDepth 20000 in
theorem c_X11_sort (l : Launch) (P : jP) (a1 : Int32) (M : jM) (N : jN) (Q : Int32 → jM → Prop) (h : w_X11_sort P a1 M Q) : jC l yX11_sort cX11_sort 2 (some .int) rm_X11_sort LC [.ref (P.1 1), .int a1] P M N (jqi P (fun r M' N' => N = N' ∧ Q r M' )) := by
  refine jC_of (by decide +kernel) [(0, .ref (P.1 1)), (1, .int a1)] (Nat.le_of_ble_eq_true rfl) rfl (fun X o => ?_)
  obtain ⟨E, hE⟩ : ∃ E, E = jE X rm_X11_sort (jqi P (fun r M' N' => N = N' ∧ Q r M' )) := ⟨_, rfl⟩
  rw [← hE]
  unfold w_X11_sort at h
  refine j_aload_n o dX11_sort_0 rfl ?_
  refine j_getf o (g := 1) (slot := 6) (ci := 11) (v := .ref (P.1 8)) rfl jin_X11 (by decide) rfl jf_X11_71 (fun _ => rfl) rfl dX11_sort_1 ?_
  refine j_iconst o (v := 1) dX11_sort_4 rfl ?_
  refine j_putf o (M1 := upM M 8 10 1) (N1 := N) (g := 8) (slot := 10) (ci := 0) (ty := .boolean) rfl jin_X0 tyX0_ok nmX0 (by decide) rfl rfl jf_X11_253 (by decide +kernel) rfl rfl (Nat.le_of_ble_eq_true rfl) (fun _ => rfl) (fun _ => rfl) (fun _ hj => upM_ne _ _ _ hj) (fun _ _ => rfl) dX11_sort_5 ?_
  refine j_aload_n o dX11_sort_8 rfl ?_
  refine j_getf o (g := 1) (slot := 5) (ci := 11) (v := .ref (P.1 7)) rfl jin_X11 (by decide) rfl jf_X11_62 (fun _ => rfl) rfl dX11_sort_9 ?_
  refine j_iload_n o dX11_sort_12 rfl ?_
  refine j_callVi (g := 7) (ci := 5) o (c_X5_added l P a1 (upM M 8 10 1) N _ h) dX11_sort_13 jc_X11_264 jn_X5_added rfl rfl rfl (fun _ => rfl) rfl rfl (fun r1 M2 Nz3 h => ?_)
  obtain ⟨rfl, h⟩ := h
  rw [hE]
  exact j_iret o dX11_sort_16 ⟨_, rfl, rfl, rfl, h⟩

abbrev rm_X11_chance : Room := { frames := 1, cells := 0, slots := 0, locals := 23 }
def w_X11_chance (P : jP) (a1 : Int32) (a2 : Int32) (a3 : Int32) (M : jM) (Q : Int32 → jM → Prop) : Prop :=
  w_X5_setChance P a1 a2 a3 (upM M 8 10 1) (fun r1 M2 =>
  jb r1 ∧
  Q r1 M2)
set_option maxRecDepth 20000 in
theorem c_X11_chance (l : Launch) (P : jP) (a1 : Int32) (a2 : Int32) (a3 : Int32) (M : jM) (N : jN) (Q : Int32 → jM → Prop) (h : w_X11_chance P a1 a2 a3 M Q) : jC l yX11_chance cX11_chance 4 (some .boolean) rm_X11_chance LC [.ref (P.1 1), .int a1, .int a2, .int a3] P M N (jqi P (fun r M' N' => N = N' ∧ Q r M' )) := by
  refine jC_of (by decide +kernel) [(0, .ref (P.1 1)), (1, .int a1), (2, .int a2), (3, .int a3)] (Nat.le_of_ble_eq_true rfl) rfl (fun X o => ?_)
  obtain ⟨E, hE⟩ : ∃ E, E = jE X rm_X11_chance (jqi P (fun r M' N' => N = N' ∧ Q r M' )) := ⟨_, rfl⟩
  rw [← hE]
  unfold w_X11_chance at h
  refine j_aload_n o dX11_chance_0 rfl ?_
  refine j_getf o (g := 1) (slot := 6) (ci := 11) (v := .ref (P.1 8)) rfl jin_X11 (by decide) rfl jf_X11_71 (fun _ => rfl) rfl dX11_chance_1 ?_
  refine j_iconst o (v := 1) dX11_chance_4 rfl ?_
  refine j_putf o (M1 := upM M 8 10 1) (N1 := N) (g := 8) (slot := 10) (ci := 0) (ty := .boolean) rfl jin_X0 tyX0_ok nmX0 (by decide) rfl rfl jf_X11_253 (by decide +kernel) rfl rfl (Nat.le_of_ble_eq_true rfl) (fun _ => rfl) (fun _ => rfl) (fun _ hj => upM_ne _ _ _ hj) (fun _ _ => rfl) dX11_chance_5 ?_
  refine j_aload_n o dX11_chance_8 rfl ?_
  refine j_getf o (g := 1) (slot := 5) (ci := 11) (v := .ref (P.1 7)) rfl jin_X11 (by decide) rfl jf_X11_62 (fun _ => rfl) rfl dX11_chance_9 ?_
  refine j_iload_n o dX11_chance_12 rfl ?_
  refine j_iload_n o dX11_chance_13 rfl ?_
  refine j_iload_n o dX11_chance_14 rfl ?_
  refine j_callVi (g := 7) (ci := 5) o (c_X5_setChance l P a1 a2 a3 (upM M 8 10 1) N _ h) dX11_chance_15 jc_X11_266 jn_X5_setChance rfl rfl rfl (fun _ => rfl) rfl rfl (fun r1 M2 Nz3 h => ?_)
  obtain ⟨rfl, h⟩ := h
  obtain ⟨hz4, h⟩ := h
  rw [hE]
  exact j_zret o hz4.1 dX11_chance_18 ⟨_, rfl, rfl, rfl, h⟩

abbrev rm_X11_share : Room := { frames := 2, cells := 0, slots := 0, locals := 54 }
def w_X11_share (P : jP) (a1 : Int32) (a2 : Int32) (M : jM) (Q : Int64 → Prop) : Prop :=
  w_X3_isKnown P a1 a2 M (fun r1 =>
  (r1 = 0 → (
   Q (-1)
  )) ∧ (¬ r1 = 0 → (
   w_X5_shareOfAll P a1 a2 M (fun r5 =>
   Q r5)
  )))
set_option maxRecDepth 20000 in
theorem c_X11_share (l : Launch) (P : jP) (a1 : Int32) (a2 : Int32) (M : jM) (N : jN) (Q : Int64 → Prop) (h : w_X11_share P a1 a2 M Q) : jC l yX11_share cX11_share 3 (some .long) rm_X11_share LC [.ref (P.1 1), .int a1, .int a2] P M N (jql P (fun r M' N' => M = M' ∧ N = N' ∧ Q r )) := by
  refine jC_of (by decide +kernel) [(0, .ref (P.1 1)), (1, .int a1), (2, .int a2)] (Nat.le_of_ble_eq_true rfl) rfl (fun X o => ?_)
  obtain ⟨E, hE⟩ : ∃ E, E = jE X rm_X11_share (jql P (fun r M' N' => M = M' ∧ N = N' ∧ Q r )) := ⟨_, rfl⟩
  rw [← hE]
  unfold w_X11_share at h
  refine j_aload_n o dX11_share_0 rfl ?_
  refine j_getf o (g := 1) (slot := 0) (ci := 11) (v := .ref (P.1 2)) rfl jin_X11 (by decide) rfl jf_X11_23 (fun _ => rfl) rfl dX11_share_1 ?_
  refine j_iload_n o dX11_share_4 rfl ?_
  refine j_iload_n o dX11_share_5 rfl ?_
  refine j_callVi (g := 2) (ci := 3) o (c_X3_isKnown l P a1 a2 M N _ h) dX11_share_6 jc_X11_207 jn_X3_isKnown rfl rfl rfl (fun _ => rfl) rfl rfl (fun r1 Mz2 Nz3 h => ?_)
  obtain ⟨rfl, rfl, h⟩ := h
  refine j_if_eq o (tgt := 24) dX11_share_9 (by decide) (fun c4 => ?_) (fun c4 => ?_)
  · replace h := h.1 c4
    refine j_ldc2 o jk_X11_273 dX11_share_24 ?_
    rw [hE]
    exact j_lret o dX11_share_27 ⟨_, rfl, rfl, rfl, rfl, h⟩
  · replace h := h.2 c4
    refine j_aload_n o dX11_share_12 rfl ?_
    refine j_getf o (g := 1) (slot := 5) (ci := 11) (v := .ref (P.1 7)) rfl jin_X11 (by decide) rfl jf_X11_62 (fun _ => rfl) rfl dX11_share_13 ?_
    refine j_iload_n o dX11_share_16 rfl ?_
    refine j_iload_n o dX11_share_17 rfl ?_
    refine j_callVl (g := 7) (ci := 5) o (c_X5_shareOfAll l P a1 a2 M N _ h) dX11_share_18 jc_X11_269 jn_X5_shareOfAll rfl rfl rfl (fun _ => rfl) rfl rfl (fun r5 Mz6 Nz7 h => ?_)
    obtain ⟨rfl, rfl, h⟩ := h
    refine j_goto o (tgt := 27) dX11_share_21 (by decide) ?_
    rw [hE]
    exact j_lret o dX11_share_27 ⟨_, rfl, rfl, rfl, rfl, h⟩

abbrev rm_X11_person : Room := { frames := 2, cells := 0, slots := 0, locals := 51 }
def w_X11_person (P : jP) (a1 : Int64) (a2 : Int32) (M : jM) (Q : Int32 → Prop) : Prop :=
  ((M 7 1) = 0 → (
   Q (-1)
  )) ∧ (¬ (M 7 1) = 0 → (
   (a2 < 0 → (
    Q (-1)
   )) ∧ (¬ a2 < 0 → (
    (a2 ≤ 1 → (
     ∀ R35 : Int32 → Prop, (∀ (x4 : Int32), (
      w_X5_drawn P a1 x4 M (fun r5 =>
      Q r5)
     ) → R35 x4) →
     (¬ a2 = 0 → (
      R35 0
     )) ∧ (a2 = 0 → (
      R35 1
     ))
    )) ∧ (¬ a2 ≤ 1 → (
     Q (-1)
    ))
   ))
  ))
set_option maxRecDepth 20000 in
theorem c_X11_person (l : Launch) (P : jP) (a1 : Int64) (a2 : Int32) (M : jM) (N : jN) (Q : Int32 → Prop) (h : w_X11_person P a1 a2 M Q) : jC l yX11_person cX11_person 4 (some .int) rm_X11_person LC [.ref (P.1 1), .long a1, .int a2] P M N (jqi P (fun r M' N' => M = M' ∧ N = N' ∧ Q r )) := by
  refine jC_of (by decide +kernel) [(0, .ref (P.1 1)), (1, .long a1), (3, .int a2)] (Nat.le_of_ble_eq_true rfl) rfl (fun X o => ?_)
  obtain ⟨E, hE⟩ : ∃ E, E = jE X rm_X11_person (jqi P (fun r M' N' => M = M' ∧ N = N' ∧ Q r )) := ⟨_, rfl⟩
  rw [← hE]
  unfold w_X11_person at h
  refine j_aload_n o dX11_person_0 rfl ?_
  refine j_getf o (g := 1) (slot := 5) (ci := 11) (v := .ref (P.1 7)) rfl jin_X11 (by decide) rfl jf_X11_62 (fun _ => rfl) rfl dX11_person_1 ?_
  refine j_getf o (g := 7) (slot := 1) (ci := 5) (v := .int (M 7 1)) rfl jin_X5 (by decide) rfl jf_X11_275 (fun _ => rfl) rfl dX11_person_4 ?_
  refine j_if_eq o (tgt := 19) dX11_person_7 (by decide) (fun c1 => ?_) (fun c1 => ?_)
  · replace h := h.1 c1
    refine j_iconst o (v := (-1)) dX11_person_19 rfl ?_
    rw [hE]
    exact j_iret o dX11_person_20 ⟨_, rfl, rfl, rfl, rfl, h⟩
  · replace h := h.2 c1
    refine j_iload_n o dX11_person_10 rfl ?_
    refine j_if_lt o (tgt := 19) dX11_person_11 (by decide) (fun c2 => ?_) (fun c2 => ?_)
    · replace h := h.1 c2
      refine j_iconst o (v := (-1)) dX11_person_19 rfl ?_
      rw [hE]
      exact j_iret o dX11_person_20 ⟨_, rfl, rfl, rfl, rfl, h⟩
    · replace h := h.2 c2
      refine j_iload_n o dX11_person_14 rfl ?_
      refine j_iconst o (v := 1) dX11_person_15 rfl ?_
      refine j_icmp_le o (tgt := 21) dX11_person_16 (by decide) (fun c3 => ?_) (fun c3 => ?_)
      · replace h := h.1 c3
        refine j_aload_n o dX11_person_21 rfl ?_
        refine j_getf o (g := 1) (slot := 5) (ci := 11) (v := .ref (P.1 7)) rfl jin_X11 (by decide) rfl jf_X11_62 (fun _ => rfl) rfl dX11_person_22 ?_
        refine j_lload_n o dX11_person_25 rfl ?_
        refine j_iload_n o dX11_person_26 rfl ?_
        replace h := h (fun (x4 : Int32) => J X P M N 0 0 E 4 35 [] [.int x4, .long a1, .ref (P.1 7)]) (by
          intro x4 h
          refine j_callVi (g := 7) (ci := 5) o (c_X5_drawn l P a1 x4 M N _ h) dX11_person_35 jc_X11_278 jn_X5_drawn rfl rfl rfl (fun _ => rfl) rfl rfl (fun r5 Mz6 Nz7 h => ?_)
          obtain ⟨rfl, rfl, h⟩ := h
          rw [hE]
          exact j_iret o dX11_person_38 ⟨_, rfl, rfl, rfl, rfl, h⟩)
        refine j_if_ne o (tgt := 34) dX11_person_27 (by decide) (fun c8 => ?_) (fun c8 => ?_)
        · replace h := h.1 c8
          refine j_iconst o (v := 0) dX11_person_34 rfl ?_
          exact j_pick [] rfl h
        · replace h := h.2 c8
          refine j_iconst o (v := 1) dX11_person_30 rfl ?_
          refine j_goto o (tgt := 35) dX11_person_31 (by decide) ?_
          exact j_pick [] rfl h
      · replace h := h.2 c3
        refine j_iconst o (v := (-1)) dX11_person_19 rfl ?_
        rw [hE]
        exact j_iret o dX11_person_20 ⟨_, rfl, rfl, rfl, rfl, h⟩

abbrev rm_X11_isOutcome : Room := { frames := 0, cells := 0, slots := 0, locals := 0 }
def w_X11_isOutcome (P : jP) (a1 : Int32) (Q : Int32 → Prop) : Prop :=
  (a1 < (-1) → (
   Q 0
  )) ∧ (¬ a1 < (-1) → (
   (5 < a1 → (
    Q 0
   )) ∧ (¬ 5 < a1 → (
    Q 1
   ))
  ))
set_option maxRecDepth 20000 in
theorem c_X11_isOutcome (l : Launch) (P : jP) (a1 : Int32) (M : jM) (N : jN) (Q : Int32 → Prop) (h : w_X11_isOutcome P a1 Q) : jC l yX11_isOutcome cX11_isOutcome 1 (some .boolean) rm_X11_isOutcome LC [.int a1] P M N (jqi P (fun r M' N' => M = M' ∧ N = N' ∧ Q r )) := by
  refine jC_of (by decide +kernel) [(0, .int a1)] (Nat.le_of_ble_eq_true rfl) rfl (fun X o => ?_)
  obtain ⟨E, hE⟩ : ∃ E, E = jE X rm_X11_isOutcome (jqi P (fun r M' N' => M = M' ∧ N = N' ∧ Q r )) := ⟨_, rfl⟩
  rw [← hE]
  unfold w_X11_isOutcome at h
  refine j_iload_n o dX11_isOutcome_0 rfl ?_
  refine j_iconst o (v := (-1)) dX11_isOutcome_1 rfl ?_
  refine j_icmp_lt o (tgt := 14) dX11_isOutcome_2 (by decide) (fun c1 => ?_) (fun c1 => ?_)
  · replace h := h.1 c1
    refine j_iconst o (v := 0) dX11_isOutcome_14 rfl ?_
    rw [hE]
    exact j_zret o rfl dX11_isOutcome_15 ⟨_, rfl, rfl, rfl, rfl, h⟩
  · replace h := h.2 c1
    refine j_iload_n o dX11_isOutcome_5 rfl ?_
    refine j_iconst o (v := 5) dX11_isOutcome_6 rfl ?_
    refine j_icmp_gt o (tgt := 14) dX11_isOutcome_7 (by decide) (fun c2 => ?_) (fun c2 => ?_)
    · replace h := h.1 c2
      refine j_iconst o (v := 0) dX11_isOutcome_14 rfl ?_
      rw [hE]
      exact j_zret o rfl dX11_isOutcome_15 ⟨_, rfl, rfl, rfl, rfl, h⟩
    · replace h := h.2 c2
      refine j_iconst o (v := 1) dX11_isOutcome_10 rfl ?_
      refine j_goto o (tgt := 15) dX11_isOutcome_11 (by decide) ?_
      rw [hE]
      exact j_zret o rfl dX11_isOutcome_15 ⟨_, rfl, rfl, rfl, rfl, h⟩

abbrev rm_X11_likely : Room := { frames := 2, cells := 0, slots := 0, locals := 54 }
def w_X11_likely (P : jP) (a1 : Int32) (a2 : Int32) (a3 : Int32) (M : jM) (Q : Int64 → Prop) : Prop :=
  w_X11_lawAt P a1 M (fun r1 =>
  (r1 = 0 → (
   Q (-1)
  )) ∧ (r1 ≠ 0 → (
   w_X11_isOutcome P a2 (fun r5 =>
   (r5 = 0 → (
    Q (-1)
   )) ∧ (¬ r5 = 0 → (
    (a3 < (-1) → (
     Q (-1)
    )) ∧ (¬ a3 < (-1) → (
     (a3 < (M 7 1) → (
      ∀ R45 : Int64 → Int32 → Prop, (∀ (x11 : Int64) (x12 : Int32), (
       ((M 2 2) ≤ x12 → (
        Q x11
       )) ∧ (¬ (M 2 2) ≤ x12 → (
        cLw P r1 = true ∧
        jin P (r1 + 3) x12 ∧
        ∀ R115 : Int64 → Prop, (∀ (x16 : Int64), (
         R45 x16 (x12 + 1)
        ) → R115 x16) →
        (¬ (M (r1 + 3) x12.toNatClampNeg) = a2 → (
         R115 x11
        )) ∧ ((M (r1 + 3) x12.toNatClampNeg) = a2 → (
         ∀ R112 : Int64 → Prop, (∀ (x18 : Int64), (
          R115 (x11 + x18)
         ) → R112 x18) →
         (¬ a3 = (-1) → (
          w_X5_shareOfOne P a3 (M 2 1) x12 M (fun r20 =>
          R112 r20)
         )) ∧ (a3 = (-1) → (
          w_X5_shareOfAll P (M 2 1) x12 M (fun r23 =>
          R112 r23)
         ))
        ))
       ))
      ) → R45 x11 x12) →
      R45 0 0
     )) ∧ (¬ a3 < (M 7 1) → (
      Q (-1)
     ))
    ))
   )))
  )))
set_option maxRecDepth 20000 in
theorem c_X11_likely (l : Launch) (P : jP) (a1 : Int32) (a2 : Int32) (a3 : Int32) (M : jM) (N : jN) (Q : Int64 → Prop) (h : w_X11_likely P a1 a2 a3 M Q) : jC l yX11_likely cX11_likely 8 (some .long) rm_X11_likely LC [.ref (P.1 1), .int a1, .int a2, .int a3] P M N (jql P (fun r M' N' => M = M' ∧ N = N' ∧ Q r )) := by
  refine jC_of (by decide +kernel) [(0, .ref (P.1 1)), (1, .int a1), (2, .int a2), (3, .int a3)] (Nat.le_of_ble_eq_true rfl) rfl (fun X o => ?_)
  obtain ⟨E, hE⟩ : ∃ E, E = jE X rm_X11_likely (jql P (fun r M' N' => M = M' ∧ N = N' ∧ Q r )) := ⟨_, rfl⟩
  rw [← hE]
  unfold w_X11_likely at h
  refine j_aload_n o dX11_likely_0 rfl ?_
  refine j_iload_n o dX11_likely_1 rfl ?_
  refine j_callVr (g := 1) (ci := 11) o (c_X11_lawAt l P a1 M N _ h) dX11_likely_2 jc_X11_191 jn_X11_lawAt rfl rfl rfl (fun _ => rfl) rfl rfl (fun r1 Mz2 Nz3 h => ?_)
  obtain ⟨rfl, rfl, h⟩ := h
  refine j_qstore o [(4, jrf P r1), (0, .ref (P.1 1)), (1, .int a1), (2, .int a2), (3, .int a3)] dX11_likely_5 (by decide) rfl ?_
  refine j_qload o (g := r1) rfl dX11_likely_7 ?_
  refine j_null2 o (tgt := 35) dX11_likely_9 (by decide) (fun c4 => ?_) (fun c4 => ?_)
  · replace h := h.1 c4
    refine j_ldc2 o jk_X11_273 dX11_likely_35 ?_
    rw [hE]
    exact j_lret o dX11_likely_38 ⟨_, rfl, rfl, rfl, rfl, h⟩
  · replace h := h.2 c4
    try rw [jrf_n P c4]
    refine j_iload_n o dX11_likely_12 rfl ?_
    refine j_callSi o (c_X11_isOutcome l P a2 M N _ h) dX11_likely_13 jc_X11_282 jn_X11_isOutcome rfl rfl rfl rfl (fun r5 Mz6 Nz7 h => ?_)
    obtain ⟨rfl, rfl, h⟩ := h
    refine j_if_eq o (tgt := 35) dX11_likely_16 (by decide) (fun c8 => ?_) (fun c8 => ?_)
    · replace h := h.1 c8
      refine j_ldc2 o jk_X11_273 dX11_likely_35 ?_
      rw [hE]
      exact j_lret o dX11_likely_38 ⟨_, rfl, rfl, rfl, rfl, h⟩
    · replace h := h.2 c8
      refine j_iload_n o dX11_likely_19 rfl ?_
      refine j_iconst o (v := (-1)) dX11_likely_20 rfl ?_
      refine j_icmp_lt o (tgt := 35) dX11_likely_21 (by decide) (fun c9 => ?_) (fun c9 => ?_)
      · replace h := h.1 c9
        refine j_ldc2 o jk_X11_273 dX11_likely_35 ?_
        rw [hE]
        exact j_lret o dX11_likely_38 ⟨_, rfl, rfl, rfl, rfl, h⟩
      · replace h := h.2 c9
        refine j_iload_n o dX11_likely_24 rfl ?_
        refine j_aload_n o dX11_likely_25 rfl ?_
        refine j_getf o (g := 1) (slot := 5) (ci := 11) (v := .ref (P.1 7)) rfl jin_X11 (by decide) rfl jf_X11_62 (fun _ => rfl) rfl dX11_likely_26 ?_
        refine j_getf o (g := 7) (slot := 1) (ci := 5) (v := .int (M 7 1)) rfl jin_X5 (by decide) rfl jf_X11_275 (fun _ => rfl) rfl dX11_likely_29 ?_
        refine j_icmp_lt o (tgt := 39) dX11_likely_32 (by decide) (fun c10 => ?_) (fun c10 => ?_)
        · replace h := h.1 c10
          refine j_lconst o (v := 0) dX11_likely_39 rfl ?_
          refine j_lstore o [(5, .long 0), (4, .ref (P.1 r1)), (0, .ref (P.1 1)), (1, .int a1), (2, .int a2), (3, .int a3)] dX11_likely_40 (by decide) rfl ?_
          refine j_iconst o (v := 0) dX11_likely_42 rfl ?_
          refine j_istore o [(7, .int 0), (5, .long 0), (4, .ref (P.1 r1)), (0, .ref (P.1 1)), (1, .int a1), (2, .int a2), (3, .int a3)] dX11_likely_43 (by decide) rfl ?_
          replace h := h (fun (x11 : Int64) (x12 : Int32) => J X P M N 0 0 E 8 45 [(0, .ref (P.1 1)), (2, .int a2), (3, .int a3), (4, .ref (P.1 r1)), (5, .long x11), (7, .int x12)] []) (by
            intro x11 x12 h
            refine j_iload o dX11_likely_45 rfl ?_
            refine j_aload_n o dX11_likely_47 rfl ?_
            refine j_getf o (g := 1) (slot := 0) (ci := 11) (v := .ref (P.1 2)) rfl jin_X11 (by decide) rfl jf_X11_23 (fun _ => rfl) rfl dX11_likely_48 ?_
            refine j_getf o (g := 2) (slot := 2) (ci := 3) (v := .int (M 2 2)) rfl jin_X3 (by decide) rfl jf_X11_77 (fun _ => rfl) rfl dX11_likely_51 ?_
            refine j_icmp_ge o (tgt := 121) dX11_likely_54 (by decide) (fun c13 => ?_) (fun c13 => ?_)
            · replace h := h.1 c13
              refine j_lload o dX11_likely_121 rfl ?_
              rw [hE]
              exact j_lret o dX11_likely_123 ⟨_, rfl, rfl, rfl, rfl, h⟩
            · replace h := h.2 c13
              refine j_aload o dX11_likely_57 rfl ?_
              obtain ⟨hb14, h⟩ := h
              refine j_getf o (g := r1) (slot := 3) (ci := 4) (v := .ref (P.1 (r1 + 3))) rfl jin_X4 (by decide) rfl jf_X11_164 (fun tA => LC_lw hb14 tA _ _) rfl dX11_likely_59 ?_
              refine j_iload o dX11_likely_62 rfl ?_
              obtain ⟨hb15, h⟩ := h
              obtain ⟨nnhb15, hchb15, hihb15⟩ := hb15
              refine j_iald o (g := r1 + 3) (fun tA => LC_ia hchb15 tA _ _) hihb15 dX11_likely_64 ?_
              refine j_iload_n o dX11_likely_65 rfl ?_
              replace h := h (fun (x16 : Int64) => J X P M N 0 0 E 8 115 [(0, .ref (P.1 1)), (2, .int a2), (3, .int a3), (4, .ref (P.1 r1)), (5, .long x16), (7, .int x12)] []) (by
                intro x16 h
                refine j_iinc o (v := x12 + 1) [(7, .int (x12 + 1)), (0, .ref (P.1 1)), (2, .int a2), (3, .int a3), (4, .ref (P.1 r1)), (5, .long x16)] dX11_likely_115 rfl rfl (by decide) rfl ?_
                refine j_goto o (tgt := 45) dX11_likely_118 (by decide) ?_
                exact j_pick [1, 2, 3, 4, 5, 0] rfl h)
              refine j_icmp_ne o (tgt := 115) dX11_likely_66 (by decide) (fun c17 => ?_) (fun c17 => ?_)
              · replace h := h.1 c17
                exact j_pick [0, 1, 2, 3, 4, 5] rfl h
              · replace h := h.2 c17
                refine j_lload o dX11_likely_69 rfl ?_
                refine j_iload_n o dX11_likely_71 rfl ?_
                refine j_iconst o (v := (-1)) dX11_likely_72 rfl ?_
                replace h := h (fun (x18 : Int64) => J X P M N 0 0 E 8 112 [(0, .ref (P.1 1)), (2, .int a2), (3, .int a3), (4, .ref (P.1 r1)), (7, .int x12)] [.long x18, .long x11]) (by
                  intro x18 h
                  refine j_ladd o dX11_likely_112 ?_
                  refine j_lstore o [(5, .long (x11 + x18)), (0, .ref (P.1 1)), (2, .int a2), (3, .int a3), (4, .ref (P.1 r1)), (7, .int x12)] dX11_likely_113 (by decide) rfl ?_
                  exact j_pick [1, 2, 3, 4, 0, 5] rfl h)
                refine j_icmp_ne o (tgt := 95) dX11_likely_73 (by decide) (fun c19 => ?_) (fun c19 => ?_)
                · replace h := h.1 c19
                  refine j_aload_n o dX11_likely_95 rfl ?_
                  refine j_getf o (g := 1) (slot := 5) (ci := 11) (v := .ref (P.1 7)) rfl jin_X11 (by decide) rfl jf_X11_62 (fun _ => rfl) rfl dX11_likely_96 ?_
                  refine j_iload_n o dX11_likely_99 rfl ?_
                  refine j_aload_n o dX11_likely_100 rfl ?_
                  refine j_getf o (g := 1) (slot := 0) (ci := 11) (v := .ref (P.1 2)) rfl jin_X11 (by decide) rfl jf_X11_23 (fun _ => rfl) rfl dX11_likely_101 ?_
                  refine j_getf o (g := 2) (slot := 1) (ci := 3) (v := .int (M 2 1)) rfl jin_X3 (by decide) rfl jf_X11_217 (fun _ => rfl) rfl dX11_likely_104 ?_
                  refine j_iload o dX11_likely_107 rfl ?_
                  refine j_callVl (g := 7) (ci := 5) o (c_X5_shareOfOne l P a3 (M 2 1) x12 M N _ h) dX11_likely_109 jc_X11_285 jn_X5_shareOfOne rfl rfl rfl (fun _ => rfl) rfl rfl (fun r20 Mz21 Nz22 h => ?_)
                  obtain ⟨rfl, rfl, h⟩ := h
                  exact j_pick [0, 1, 2, 3, 5] rfl h
                · replace h := h.2 c19
                  refine j_aload_n o dX11_likely_76 rfl ?_
                  refine j_getf o (g := 1) (slot := 5) (ci := 11) (v := .ref (P.1 7)) rfl jin_X11 (by decide) rfl jf_X11_62 (fun _ => rfl) rfl dX11_likely_77 ?_
                  refine j_aload_n o dX11_likely_80 rfl ?_
                  refine j_getf o (g := 1) (slot := 0) (ci := 11) (v := .ref (P.1 2)) rfl jin_X11 (by decide) rfl jf_X11_23 (fun _ => rfl) rfl dX11_likely_81 ?_
                  refine j_getf o (g := 2) (slot := 1) (ci := 3) (v := .int (M 2 1)) rfl jin_X3 (by decide) rfl jf_X11_217 (fun _ => rfl) rfl dX11_likely_84 ?_
                  refine j_iload o dX11_likely_87 rfl ?_
                  refine j_callVl (g := 7) (ci := 5) o (c_X5_shareOfAll l P (M 2 1) x12 M N _ h) dX11_likely_89 jc_X11_269 jn_X5_shareOfAll rfl rfl rfl (fun _ => rfl) rfl rfl (fun r23 Mz24 Nz25 h => ?_)
                  obtain ⟨rfl, rfl, h⟩ := h
                  refine j_goto o (tgt := 112) dX11_likely_92 (by decide) ?_
                  exact j_pick [0, 1, 2, 3, 5] rfl h)
          exact j_pick [3, 5, 6, 2, 1, 0] rfl h
        · replace h := h.2 c10
          refine j_ldc2 o jk_X11_273 dX11_likely_35 ?_
          rw [hE]
          exact j_lret o dX11_likely_38 ⟨_, rfl, rfl, rfl, rfl, h⟩

abbrev rm_X11_isReady : Room := { frames := 5, cells := 0, slots := 0, locals := 130 }
def w_X11_isReady (P : jP) (a1 : Int32) (a2 : Int32) (a3 : Int32) (a4 : Int32) (M : jM) (N : jN) (Q : Int32 → jM → jN → Prop) : Prop :=
  w_X11_lawAt P a1 M (fun r1 =>
  w_X11_lawAt P a2 M (fun r4 =>
  (r1 = 0 → (
   Q 0 M N
  )) ∧ (r1 ≠ 0 → (
   ∀ R29 : Prop, ((
    w_X3_isKnown P a3 a4 M (fun r8 =>
    (¬ r8 = 0 → (
     w_X0_prepare P r1 r4 a3 a4 M N (fun M12 N13 =>
     Q 1 M12 N13)
    )) ∧ (r8 = 0 → (
     Q 0 M N
    )))
   ) → R29) →
   (r4 ≠ 0 → (
    R29
   )) ∧ (r4 = 0 → (
    (¬ a2 = (-1) → (
     Q 0 M N
    )) ∧ (a2 = (-1) → (
     R29
    ))
   ))
  ))))
set_option maxRecDepth 20000 in
theorem c_X11_isReady (l : Launch) (P : jP) (a1 : Int32) (a2 : Int32) (a3 : Int32) (a4 : Int32) (M : jM) (N : jN) (Q : Int32 → jM → jN → Prop) (h : w_X11_isReady P a1 a2 a3 a4 M N Q) : jC l yX11_isReady cX11_isReady 7 (some .boolean) rm_X11_isReady LC [.ref (P.1 1), .int a1, .int a2, .int a3, .int a4] P M N (jqi P (fun r M' N' => Q r M' N')) := by
  refine jC_of (by decide +kernel) [(0, .ref (P.1 1)), (1, .int a1), (2, .int a2), (3, .int a3), (4, .int a4)] (Nat.le_of_ble_eq_true rfl) rfl (fun X o => ?_)
  obtain ⟨E, hE⟩ : ∃ E, E = jE X rm_X11_isReady (jqi P (fun r M' N' => Q r M' N')) := ⟨_, rfl⟩
  rw [← hE]
  unfold w_X11_isReady at h
  refine j_aload_n o dX11_isReady_0 rfl ?_
  refine j_iload_n o dX11_isReady_1 rfl ?_
  refine j_callVr (g := 1) (ci := 11) o (c_X11_lawAt l P a1 M N _ h) dX11_isReady_2 jc_X11_191 jn_X11_lawAt rfl rfl rfl (fun _ => rfl) rfl rfl (fun r1 Mz2 Nz3 h => ?_)
  obtain ⟨rfl, rfl, h⟩ := h
  refine j_qstore o [(5, jrf P r1), (0, .ref (P.1 1)), (1, .int a1), (2, .int a2), (3, .int a3), (4, .int a4)] dX11_isReady_5 (by decide) rfl ?_
  refine j_aload_n o dX11_isReady_7 rfl ?_
  refine j_iload_n o dX11_isReady_8 rfl ?_
  refine j_callVr (g := 1) (ci := 11) o (c_X11_lawAt l P a2 M N _ h) dX11_isReady_9 jc_X11_191 jn_X11_lawAt rfl rfl rfl (fun _ => rfl) rfl rfl (fun r4 Mz5 Nz6 h => ?_)
  obtain ⟨rfl, rfl, h⟩ := h
  refine j_qstore o [(6, jrf P r4), (5, jrf P r1), (0, .ref (P.1 1)), (1, .int a1), (2, .int a2), (3, .int a3), (4, .int a4)] dX11_isReady_12 (by decide) (by simp [jst1, jst2, jrf_cat]) ?_
  refine j_qload o (g := r1) rfl dX11_isReady_14 ?_
  refine j_null2 o (tgt := 42) dX11_isReady_16 (by decide) (fun c7 => ?_) (fun c7 => ?_)
  · replace h := h.1 c7
    refine j_iconst o (v := 0) dX11_isReady_42 rfl ?_
    rw [hE]
    exact j_zret o rfl dX11_isReady_43 ⟨_, rfl, rfl, h⟩
  · replace h := h.2 c7
    try rw [jrf_n P c7]
    refine j_qload o (g := r4) rfl dX11_isReady_19 ?_
    replace h := h (J X P M N 0 0 E 7 29 [(0, .ref (P.1 1)), (3, .int a3), (4, .int a4), (5, .ref (P.1 r1)), (6, jrf P r4)] []) (by
      intro h
      refine j_aload_n o dX11_isReady_29 rfl ?_
      refine j_getf o (g := 1) (slot := 0) (ci := 11) (v := .ref (P.1 2)) rfl jin_X11 (by decide) rfl jf_X11_23 (fun _ => rfl) rfl dX11_isReady_30 ?_
      refine j_iload_n o dX11_isReady_33 rfl ?_
      refine j_iload o dX11_isReady_34 rfl ?_
      refine j_callVi (g := 2) (ci := 3) o (c_X3_isKnown l P a3 a4 M N _ h) dX11_isReady_36 jc_X11_207 jn_X3_isKnown rfl rfl rfl (fun _ => rfl) rfl rfl (fun r8 Mz9 Nz10 h => ?_)
      obtain ⟨rfl, rfl, h⟩ := h
      refine j_if_ne o (tgt := 44) dX11_isReady_39 (by decide) (fun c11 => ?_) (fun c11 => ?_)
      · replace h := h.1 c11
        refine j_aload_n o dX11_isReady_44 rfl ?_
        refine j_getf o (g := 1) (slot := 6) (ci := 11) (v := .ref (P.1 8)) rfl jin_X11 (by decide) rfl jf_X11_71 (fun _ => rfl) rfl dX11_isReady_45 ?_
        refine j_aload o dX11_isReady_48 rfl ?_
        refine j_qload o (g := r4) rfl dX11_isReady_50 ?_
        refine j_iload_n o dX11_isReady_52 rfl ?_
        refine j_iload o dX11_isReady_53 rfl ?_
        refine j_callVv (g := 8) (ci := 0) o (c_X0_prepare l P r1 r4 a3 a4 M N _ h) dX11_isReady_55 jc_X11_303 jn_X0_prepare rfl rfl rfl (fun _ => rfl) rfl rfl (fun M12 N13 h => ?_)
        refine j_iconst o (v := 1) dX11_isReady_58 rfl ?_
        rw [hE]
        exact j_zret o rfl dX11_isReady_59 ⟨_, rfl, rfl, h⟩
      · replace h := h.2 c11
        refine j_iconst o (v := 0) dX11_isReady_42 rfl ?_
        rw [hE]
        exact j_zret o rfl dX11_isReady_43 ⟨_, rfl, rfl, h⟩)
    refine j_nonnull2 o (tgt := 29) dX11_isReady_21 (by decide) (fun c14 => ?_) (fun c14 => ?_)
    · replace h := h.1 c14
      try rw [jrf_n P c14]
      rw [← jrf_n P (g := r4) c14]
      exact j_pick [2, 5, 6, 1, 0] rfl h
    · replace h := h.2 c14
      refine j_iload_n o dX11_isReady_24 rfl ?_
      refine j_iconst o (v := (-1)) dX11_isReady_25 rfl ?_
      refine j_icmp_ne o (tgt := 42) dX11_isReady_26 (by decide) (fun c15 => ?_) (fun c15 => ?_)
      · replace h := h.1 c15
        refine j_iconst o (v := 0) dX11_isReady_42 rfl ?_
        rw [hE]
        exact j_zret o rfl dX11_isReady_43 ⟨_, rfl, rfl, h⟩
      · replace h := h.2 c15
        exact j_pick [2, 5, 6, 1, 0] rfl h

abbrev rm_X11_mean : Room := { frames := 6, cells := 0, slots := 0, locals := 156 }
def w_X11_mean (P : jP) (a1 : Int32) (a2 : Int32) (a3 : Int32) (a4 : Int32) (M : jM) (N : jN) (Q : Int64 → jM → jN → Prop) : Prop :=
  w_X11_isReady P a1 a2 a3 a4 M N (fun r1 M2 N3 =>
  (r1 = 0 → (
   Q (-1) M2 N3
  )) ∧ (¬ r1 = 0 → (
   w_X3_place P a3 a4 M2 (fun r5 =>
   vp_in r5 (P.2.2 2) ∧
   Q (N3 36 r5.toNatClampNeg) M2 N3)
  )))
set_option maxRecDepth 20000 in
theorem c_X11_mean (l : Launch) (P : jP) (a1 : Int32) (a2 : Int32) (a3 : Int32) (a4 : Int32) (M : jM) (N : jN) (Q : Int64 → jM → jN → Prop) (h : w_X11_mean P a1 a2 a3 a4 M N Q) : jC l yX11_mean cX11_mean 5 (some .long) rm_X11_mean LC [.ref (P.1 1), .int a1, .int a2, .int a3, .int a4] P M N (jql P (fun r M' N' => Q r M' N')) := by
  refine jC_of (by decide +kernel) [(0, .ref (P.1 1)), (1, .int a1), (2, .int a2), (3, .int a3), (4, .int a4)] (Nat.le_of_ble_eq_true rfl) rfl (fun X o => ?_)
  obtain ⟨E, hE⟩ : ∃ E, E = jE X rm_X11_mean (jql P (fun r M' N' => Q r M' N')) := ⟨_, rfl⟩
  rw [← hE]
  unfold w_X11_mean at h
  refine j_aload_n o dX11_mean_0 rfl ?_
  refine j_iload_n o dX11_mean_1 rfl ?_
  refine j_iload_n o dX11_mean_2 rfl ?_
  refine j_iload_n o dX11_mean_3 rfl ?_
  refine j_iload o dX11_mean_4 rfl ?_
  refine j_callVi (g := 1) (ci := 11) o (c_X11_isReady l P a1 a2 a3 a4 M N _ h) dX11_mean_6 jc_X11_289 jn_X11_isReady rfl rfl rfl (fun _ => rfl) rfl rfl (fun r1 M2 N3 h => ?_)
  refine j_if_eq o (tgt := 33) dX11_mean_9 (by decide) (fun c4 => ?_) (fun c4 => ?_)
  · replace h := h.1 c4
    refine j_ldc2 o jk_X11_273 dX11_mean_33 ?_
    rw [hE]
    exact j_lret o dX11_mean_36 ⟨_, rfl, rfl, h⟩
  · replace h := h.2 c4
    refine j_aload_n o dX11_mean_12 rfl ?_
    refine j_getf o (g := 1) (slot := 6) (ci := 11) (v := .ref (P.1 8)) rfl jin_X11 (by decide) rfl jf_X11_71 (fun _ => rfl) rfl dX11_mean_13 ?_
    refine j_getf o (g := 8) (slot := 4) (ci := 0) (v := .ref (P.1 36)) rfl jin_X0 (by decide) rfl jf_X11_293 (fun _ => rfl) rfl dX11_mean_16 ?_
    refine j_aload_n o dX11_mean_19 rfl ?_
    refine j_getf o (g := 1) (slot := 0) (ci := 11) (v := .ref (P.1 2)) rfl jin_X11 (by decide) rfl jf_X11_23 (fun _ => rfl) rfl dX11_mean_20 ?_
    refine j_iload_n o dX11_mean_23 rfl ?_
    refine j_iload o dX11_mean_24 rfl ?_
    refine j_callVi (g := 2) (ci := 3) o (c_X3_place l P a3 a4 M2 N3 _ h) dX11_mean_26 jc_X11_211 jn_X3_place rfl rfl rfl (fun _ => rfl) rfl rfl (fun r5 Mz6 Nz7 h => ?_)
    obtain ⟨rfl, rfl, h⟩ := h
    obtain ⟨hb8, h⟩ := h
    refine j_lald o (g := 36) (fun _ => rfl) hb8 dX11_mean_29 ?_
    refine j_goto o (tgt := 36) dX11_mean_30 (by decide) ?_
    rw [hE]
    exact j_lret o dX11_mean_36 ⟨_, rfl, rfl, h⟩

abbrev rm_X11_worst : Room := { frames := 6, cells := 0, slots := 0, locals := 156 }
def w_X11_worst (P : jP) (a1 : Int32) (a2 : Int32) (a3 : Int32) (a4 : Int32) (M : jM) (N : jN) (Q : Int32 → jM → jN → Prop) : Prop :=
  w_X11_isReady P a1 a2 a3 a4 M N (fun r1 M2 N3 =>
  (r1 = 0 → (
   Q (-1) M2 N3
  )) ∧ (¬ r1 = 0 → (
   w_X3_place P a3 a4 M2 (fun r5 =>
   vp_in r5 (P.2.2 2) ∧
   Q (M2 37 r5.toNatClampNeg) M2 N3)
  )))
set_option maxRecDepth 20000 in
theorem c_X11_worst (l : Launch) (P : jP) (a1 : Int32) (a2 : Int32) (a3 : Int32) (a4 : Int32) (M : jM) (N : jN) (Q : Int32 → jM → jN → Prop) (h : w_X11_worst P a1 a2 a3 a4 M N Q) : jC l yX11_worst cX11_worst 5 (some .int) rm_X11_worst LC [.ref (P.1 1), .int a1, .int a2, .int a3, .int a4] P M N (jqi P (fun r M' N' => Q r M' N')) := by
  refine jC_of (by decide +kernel) [(0, .ref (P.1 1)), (1, .int a1), (2, .int a2), (3, .int a3), (4, .int a4)] (Nat.le_of_ble_eq_true rfl) rfl (fun X o => ?_)
  obtain ⟨E, hE⟩ : ∃ E, E = jE X rm_X11_worst (jqi P (fun r M' N' => Q r M' N')) := ⟨_, rfl⟩
  rw [← hE]
  unfold w_X11_worst at h
  refine j_aload_n o dX11_worst_0 rfl ?_
  refine j_iload_n o dX11_worst_1 rfl ?_
  refine j_iload_n o dX11_worst_2 rfl ?_
  refine j_iload_n o dX11_worst_3 rfl ?_
  refine j_iload o dX11_worst_4 rfl ?_
  refine j_callVi (g := 1) (ci := 11) o (c_X11_isReady l P a1 a2 a3 a4 M N _ h) dX11_worst_6 jc_X11_289 jn_X11_isReady rfl rfl rfl (fun _ => rfl) rfl rfl (fun r1 M2 N3 h => ?_)
  refine j_if_eq o (tgt := 33) dX11_worst_9 (by decide) (fun c4 => ?_) (fun c4 => ?_)
  · replace h := h.1 c4
    refine j_iconst o (v := (-1)) dX11_worst_33 rfl ?_
    rw [hE]
    exact j_iret o dX11_worst_34 ⟨_, rfl, rfl, h⟩
  · replace h := h.2 c4
    refine j_aload_n o dX11_worst_12 rfl ?_
    refine j_getf o (g := 1) (slot := 6) (ci := 11) (v := .ref (P.1 8)) rfl jin_X11 (by decide) rfl jf_X11_71 (fun _ => rfl) rfl dX11_worst_13 ?_
    refine j_getf o (g := 8) (slot := 5) (ci := 0) (v := .ref (P.1 37)) rfl jin_X0 (by decide) rfl jf_X11_296 (fun _ => rfl) rfl dX11_worst_16 ?_
    refine j_aload_n o dX11_worst_19 rfl ?_
    refine j_getf o (g := 1) (slot := 0) (ci := 11) (v := .ref (P.1 2)) rfl jin_X11 (by decide) rfl jf_X11_23 (fun _ => rfl) rfl dX11_worst_20 ?_
    refine j_iload_n o dX11_worst_23 rfl ?_
    refine j_iload o dX11_worst_24 rfl ?_
    refine j_callVi (g := 2) (ci := 3) o (c_X3_place l P a3 a4 M2 N3 _ h) dX11_worst_26 jc_X11_211 jn_X3_place rfl rfl rfl (fun _ => rfl) rfl rfl (fun r5 Mz6 Nz7 h => ?_)
    obtain ⟨rfl, rfl, h⟩ := h
    obtain ⟨hb8, h⟩ := h
    refine j_iald o (g := 37) (fun _ => rfl) hb8 dX11_worst_29 ?_
    refine j_goto o (tgt := 34) dX11_worst_30 (by decide) ?_
    rw [hE]
    exact j_iret o dX11_worst_34 ⟨_, rfl, rfl, h⟩

abbrev rm_X11_best : Room := { frames := 6, cells := 0, slots := 0, locals := 156 }
def w_X11_best (P : jP) (a1 : Int32) (a2 : Int32) (a3 : Int32) (a4 : Int32) (a5 : Int32) (M : jM) (N : jN) (Q : Int32 → jM → jN → Prop) : Prop :=
  (a5 < 0 → (
   Q (-1) M N
  )) ∧ (¬ a5 < 0 → (
   (1 < a5 → (
    Q (-1) M N
   )) ∧ (¬ 1 < a5 → (
    w_X11_isReady P a1 a2 a3 a4 M N (fun r3 M4 N5 =>
    (¬ r3 = 0 → (
     w_X3_place P a3 a4 M4 (fun r7 =>
     ∀ R60 : Int32 → Int32 → Int32 → Prop, (∀ (x10 : Int32) (x11 : Int32) (x12 : Int32), (
      w_X0_lowestBest P x10 x11 x12 M4 N5 (fun r13 =>
      Q r13 M4 N5)
     ) → R60 x10 x11 x12) →
     (¬ a5 = 0 → (
      R60 r7 ((M4 2 1) &&& (a3 ^^^ (-1))) 0
     )) ∧ (a5 = 0 → (
      R60 r7 ((M4 2 1) &&& (a3 ^^^ (-1))) 1
     )))
    )) ∧ (r3 = 0 → (
     Q (-1) M4 N5
    )))
   ))
  ))
set_option maxRecDepth 20000 in
theorem c_X11_best (l : Launch) (P : jP) (a1 : Int32) (a2 : Int32) (a3 : Int32) (a4 : Int32) (a5 : Int32) (M : jM) (N : jN) (Q : Int32 → jM → jN → Prop) (h : w_X11_best P a1 a2 a3 a4 a5 M N Q) : jC l yX11_best cX11_best 6 (some .int) rm_X11_best LC [.ref (P.1 1), .int a1, .int a2, .int a3, .int a4, .int a5] P M N (jqi P (fun r M' N' => Q r M' N')) := by
  refine jC_of (by decide +kernel) [(0, .ref (P.1 1)), (1, .int a1), (2, .int a2), (3, .int a3), (4, .int a4), (5, .int a5)] (Nat.le_of_ble_eq_true rfl) rfl (fun X o => ?_)
  obtain ⟨E, hE⟩ : ∃ E, E = jE X rm_X11_best (jqi P (fun r M' N' => Q r M' N')) := ⟨_, rfl⟩
  rw [← hE]
  unfold w_X11_best at h
  refine j_iload o dX11_best_0 rfl ?_
  refine j_if_lt o (tgt := 23) dX11_best_2 (by decide) (fun c1 => ?_) (fun c1 => ?_)
  · replace h := h.1 c1
    refine j_iconst o (v := (-1)) dX11_best_23 rfl ?_
    rw [hE]
    exact j_iret o dX11_best_24 ⟨_, rfl, rfl, h⟩
  · replace h := h.2 c1
    refine j_iload o dX11_best_5 rfl ?_
    refine j_iconst o (v := 1) dX11_best_7 rfl ?_
    refine j_icmp_gt o (tgt := 23) dX11_best_8 (by decide) (fun c2 => ?_) (fun c2 => ?_)
    · replace h := h.1 c2
      refine j_iconst o (v := (-1)) dX11_best_23 rfl ?_
      rw [hE]
      exact j_iret o dX11_best_24 ⟨_, rfl, rfl, h⟩
    · replace h := h.2 c2
      refine j_aload_n o dX11_best_11 rfl ?_
      refine j_iload_n o dX11_best_12 rfl ?_
      refine j_iload_n o dX11_best_13 rfl ?_
      refine j_iload_n o dX11_best_14 rfl ?_
      refine j_iload o dX11_best_15 rfl ?_
      refine j_callVi (g := 1) (ci := 11) o (c_X11_isReady l P a1 a2 a3 a4 M N _ h) dX11_best_17 jc_X11_289 jn_X11_isReady rfl rfl rfl (fun _ => rfl) rfl rfl (fun r3 M4 N5 h => ?_)
      refine j_if_ne o (tgt := 25) dX11_best_20 (by decide) (fun c6 => ?_) (fun c6 => ?_)
      · replace h := h.1 c6
        refine j_aload_n o dX11_best_25 rfl ?_
        refine j_getf o (g := 1) (slot := 6) (ci := 11) (v := .ref (P.1 8)) rfl jin_X11 (by decide) rfl jf_X11_71 (fun _ => rfl) rfl dX11_best_26 ?_
        refine j_aload_n o dX11_best_29 rfl ?_
        refine j_getf o (g := 1) (slot := 0) (ci := 11) (v := .ref (P.1 2)) rfl jin_X11 (by decide) rfl jf_X11_23 (fun _ => rfl) rfl dX11_best_30 ?_
        refine j_iload_n o dX11_best_33 rfl ?_
        refine j_iload o dX11_best_34 rfl ?_
        refine j_callVi (g := 2) (ci := 3) o (c_X3_place l P a3 a4 M4 N5 _ h) dX11_best_36 jc_X11_211 jn_X3_place rfl rfl rfl (fun _ => rfl) rfl rfl (fun r7 Mz8 Nz9 h => ?_)
        obtain ⟨rfl, rfl, h⟩ := h
        refine j_aload_n o dX11_best_39 rfl ?_
        refine j_getf o (g := 1) (slot := 0) (ci := 11) (v := .ref (P.1 2)) rfl jin_X11 (by decide) rfl jf_X11_23 (fun _ => rfl) rfl dX11_best_40 ?_
        refine j_getf o (g := 2) (slot := 1) (ci := 3) (v := .int (M4 2 1)) rfl jin_X3 (by decide) rfl jf_X11_217 (fun _ => rfl) rfl dX11_best_43 ?_
        refine j_iload_n o dX11_best_46 rfl ?_
        refine j_iconst o (v := (-1)) dX11_best_47 rfl ?_
        refine j_ixor o dX11_best_48 ?_
        refine j_iand o dX11_best_49 ?_
        refine j_iload o dX11_best_50 rfl ?_
        replace h := h (fun (x10 : Int32) (x11 : Int32) (x12 : Int32) => J X P M4 N5 0 0 E 6 60 [] [.int x12, .int x11, .int x10, .ref (P.1 8)]) (by
          intro x10 x11 x12 h
          refine j_callVi (g := 8) (ci := 0) o (c_X0_lowestBest l P x10 x11 x12 M4 N5 _ h) dX11_best_60 jc_X11_299 jn_X0_lowestBest rfl rfl rfl (fun _ => rfl) rfl rfl (fun r13 Mz14 Nz15 h => ?_)
          obtain ⟨rfl, rfl, h⟩ := h
          rw [hE]
          exact j_iret o dX11_best_63 ⟨_, rfl, rfl, h⟩)
        refine j_if_ne o (tgt := 59) dX11_best_52 (by decide) (fun c16 => ?_) (fun c16 => ?_)
        · replace h := h.1 c16
          refine j_iconst o (v := 0) dX11_best_59 rfl ?_
          exact j_pick [] rfl h
        · replace h := h.2 c16
          refine j_iconst o (v := 1) dX11_best_55 rfl ?_
          refine j_goto o (tgt := 60) dX11_best_56 (by decide) ?_
          exact j_pick [] rfl h
      · replace h := h.2 c6
        refine j_iconst o (v := (-1)) dX11_best_23 rfl ?_
        rw [hE]
        exact j_iret o dX11_best_24 ⟨_, rfl, rfl, h⟩

abbrev rm_X11_minutesOn : Room := { frames := 2, cells := 0, slots := 0, locals := 46 }
def w_X11_minutesOn (P : jP) (a1 : Nat) (a2 : Int32) (M : jM) (Q : Int32 → Prop) : Prop :=
  cFm P a1 = true ∧
  w_X2_nodesOn P a1 a2 M (fun r1 =>
  ∀ R12 : Int32 → Int32 → Prop, (∀ (x5 : Int32) (x6 : Int32), (
   cFm P a1 = true ∧
   ((M a1 0) ≤ x6 → (
    Q x5
   )) ∧ (¬ (M a1 0) ≤ x6 → (
    ∀ R50 : Int32 → Prop, (∀ (x9 : Int32), (
     R12 x9 (x6 + 1)
    ) → R50 x9) →
    (((r1 >>> (x6 &&& 31)) &&& 1) = 0 → (
     R50 x5
    )) ∧ (¬ ((r1 >>> (x6 &&& 31)) &&& 1) = 0 → (
     cFm P a1 = true ∧
     jin P (a1 + 1) x6 ∧
     vp_in (M (a1 + 1) x6.toNatClampNeg) (P.2.2 0) ∧
     ∀ y14 : Int32, y14 = x5 + (M 27 (M (a1 + 1) x6.toNatClampNeg).toNatClampNeg) →
     R50 y14
    ))
   ))
  ) → R12 x5 x6) →
  R12 0 0)
set_option maxRecDepth 20000 in
theorem c_X11_minutesOn (l : Launch) (P : jP) (a1 : Nat) (a2 : Int32) (M : jM) (N : jN) (Q : Int32 → Prop) (h : w_X11_minutesOn P a1 a2 M Q) : jC l yX11_minutesOn cX11_minutesOn 6 (some .int) rm_X11_minutesOn LC [.ref (P.1 1), .ref (P.1 a1), .int a2] P M N (jqi P (fun r M' N' => M = M' ∧ N = N' ∧ Q r )) := by
  refine jC_of (by decide +kernel) [(0, .ref (P.1 1)), (1, .ref (P.1 a1)), (2, .int a2)] (Nat.le_of_ble_eq_true rfl) rfl (fun X o => ?_)
  obtain ⟨E, hE⟩ : ∃ E, E = jE X rm_X11_minutesOn (jqi P (fun r M' N' => M = M' ∧ N = N' ∧ Q r )) := ⟨_, rfl⟩
  rw [← hE]
  unfold w_X11_minutesOn at h
  refine j_aload_n o dX11_minutesOn_0 rfl ?_
  refine j_iload_n o dX11_minutesOn_1 rfl ?_
  obtain ⟨hb4, h⟩ := h
  refine j_callVi (g := a1) (ci := 2) o (c_X2_nodesOn l P a1 a2 M N _ h) dX11_minutesOn_2 jc_X11_247 jn_X2_nodesOn rfl rfl rfl (fun tA => LC_fm hb4 tA _ _) rfl rfl (fun r1 Mz2 Nz3 h => ?_)
  obtain ⟨rfl, rfl, h⟩ := h
  refine j_istore_n o [(3, .int r1), (0, .ref (P.1 1)), (1, .ref (P.1 a1)), (2, .int a2)] dX11_minutesOn_5 (by decide) rfl ?_
  refine j_iconst o (v := 0) dX11_minutesOn_6 rfl ?_
  refine j_istore o [(4, .int 0), (3, .int r1), (0, .ref (P.1 1)), (1, .ref (P.1 a1)), (2, .int a2)] dX11_minutesOn_7 (by decide) rfl ?_
  refine j_iconst o (v := 0) dX11_minutesOn_9 rfl ?_
  refine j_istore o [(5, .int 0), (4, .int 0), (3, .int r1), (0, .ref (P.1 1)), (1, .ref (P.1 a1)), (2, .int a2)] dX11_minutesOn_10 (by decide) rfl ?_
  replace h := h (fun (x5 : Int32) (x6 : Int32) => J X P M N 0 0 E 6 12 [(0, .ref (P.1 1)), (1, .ref (P.1 a1)), (3, .int r1), (4, .int x5), (5, .int x6)] []) (by
    intro x5 x6 h
    refine j_iload o dX11_minutesOn_12 rfl ?_
    refine j_aload_n o dX11_minutesOn_14 rfl ?_
    obtain ⟨hb7, h⟩ := h
    refine j_getf o (g := a1) (slot := 0) (ci := 2) (v := .int (M a1 0)) rfl jin_X2 (by decide) rfl jf_X11_250 (fun tA => LC_fm hb7 tA _ _) rfl dX11_minutesOn_15 ?_
    refine j_icmp_ge o (tgt := 56) dX11_minutesOn_18 (by decide) (fun c8 => ?_) (fun c8 => ?_)
    · replace h := h.1 c8
      refine j_iload o dX11_minutesOn_56 rfl ?_
      rw [hE]
      exact j_iret o dX11_minutesOn_58 ⟨_, rfl, rfl, rfl, rfl, h⟩
    · replace h := h.2 c8
      refine j_iload_n o dX11_minutesOn_21 rfl ?_
      refine j_iload o dX11_minutesOn_22 rfl ?_
      refine j_ishr o dX11_minutesOn_24 ?_
      refine j_iconst o (v := 1) dX11_minutesOn_25 rfl ?_
      refine j_iand o dX11_minutesOn_26 ?_
      replace h := h (fun (x9 : Int32) => J X P M N 0 0 E 6 50 [(0, .ref (P.1 1)), (1, .ref (P.1 a1)), (3, .int r1), (4, .int x9), (5, .int x6)] []) (by
        intro x9 h
        refine j_iinc o (v := x6 + 1) [(5, .int (x6 + 1)), (0, .ref (P.1 1)), (1, .ref (P.1 a1)), (3, .int r1), (4, .int x9)] dX11_minutesOn_50 rfl rfl (by decide) rfl ?_
        refine j_goto o (tgt := 12) dX11_minutesOn_53 (by decide) ?_
        exact j_pick [1, 2, 3, 4, 0] rfl h)
      refine j_if_eq o (tgt := 50) dX11_minutesOn_27 (by decide) (fun c10 => ?_) (fun c10 => ?_)
      · replace h := h.1 c10
        exact j_pick [0, 1, 2, 3, 4] rfl h
      · replace h := h.2 c10
        refine j_iload o dX11_minutesOn_30 rfl ?_
        refine j_aload_n o dX11_minutesOn_32 rfl ?_
        refine j_getf o (g := 1) (slot := 4) (ci := 11) (v := .ref (P.1 6)) rfl jin_X11 (by decide) rfl jf_X11_55 (fun _ => rfl) rfl dX11_minutesOn_33 ?_
        refine j_getf o (g := 6) (slot := 1) (ci := 9) (v := .ref (P.1 27)) rfl jin_X9 (by decide) rfl jf_X11_311 (fun _ => rfl) rfl dX11_minutesOn_36 ?_
        refine j_aload_n o dX11_minutesOn_39 rfl ?_
        obtain ⟨hb11, h⟩ := h
        refine j_getf o (g := a1) (slot := 1) (ci := 2) (v := .ref (P.1 (a1 + 1))) rfl jin_X2 (by decide) rfl jf_X11_314 (fun tA => LC_fm hb11 tA _ _) rfl dX11_minutesOn_40 ?_
        refine j_iload o dX11_minutesOn_43 rfl ?_
        obtain ⟨hb12, h⟩ := h
        obtain ⟨nnhb12, hchb12, hihb12⟩ := hb12
        refine j_iald o (g := a1 + 1) (fun tA => LC_ia hchb12 tA _ _) hihb12 dX11_minutesOn_45 ?_
        obtain ⟨hb13, h⟩ := h
        refine j_iald o (g := 27) (fun _ => rfl) hb13 dX11_minutesOn_46 ?_
        refine j_iadd o dX11_minutesOn_47 ?_
        refine j_topi (fun y14 hy14 => ?_)
        replace h := h y14 hy14
        refine j_istore o [(4, .int y14), (0, .ref (P.1 1)), (1, .ref (P.1 a1)), (3, .int r1), (5, .int x6)] dX11_minutesOn_48 (by decide) rfl ?_
        exact j_pick [1, 2, 3, 0, 4] rfl h)
  exact j_pick [3, 4, 2, 1, 0] rfl h

abbrev rm_X11_cost : Room := { frames := 3, cells := 0, slots := 0, locals := 71 }
def w_X11_cost (P : jP) (a1 : Int32) (M : jM) (Q : Int64 → Prop) : Prop :=
  w_X11_formAt P a1 M (fun r1 =>
  (r1 ≠ 0 → (
   ∀ R19 : Int64 → Int32 → Prop, (∀ (x5 : Int64) (x6 : Int32), (
    ((M 2 2) ≤ x6 → (
     Q x5
    )) ∧ (¬ (M 2 2) ≤ x6 → (
     w_X5_shareOfAll P (M 2 1) x6 M (fun r8 =>
     w_X11_minutesOn P r1 x6 M (fun r11 =>
     R19 (x5 + (r8 * r11.toInt64)) (x6 + 1)))
    ))
   ) → R19 x5 x6) →
   R19 0 0
  )) ∧ (r1 = 0 → (
   Q (-1)
  )))
set_option maxRecDepth 20000 in
theorem c_X11_cost (l : Launch) (P : jP) (a1 : Int32) (M : jM) (N : jN) (Q : Int64 → Prop) (h : w_X11_cost P a1 M Q) : jC l yX11_cost cX11_cost 6 (some .long) rm_X11_cost LC [.ref (P.1 1), .int a1] P M N (jql P (fun r M' N' => M = M' ∧ N = N' ∧ Q r )) := by
  refine jC_of (by decide +kernel) [(0, .ref (P.1 1)), (1, .int a1)] (Nat.le_of_ble_eq_true rfl) rfl (fun X o => ?_)
  obtain ⟨E, hE⟩ : ∃ E, E = jE X rm_X11_cost (jql P (fun r M' N' => M = M' ∧ N = N' ∧ Q r )) := ⟨_, rfl⟩
  rw [← hE]
  unfold w_X11_cost at h
  refine j_aload_n o dX11_cost_0 rfl ?_
  refine j_iload_n o dX11_cost_1 rfl ?_
  refine j_callVr (g := 1) (ci := 11) o (c_X11_formAt l P a1 M N _ h) dX11_cost_2 jc_X11_237 jn_X11_formAt rfl rfl rfl (fun _ => rfl) rfl rfl (fun r1 Mz2 Nz3 h => ?_)
  obtain ⟨rfl, rfl, h⟩ := h
  refine j_qstore_n o [(2, jrf P r1), (0, .ref (P.1 1)), (1, .int a1)] dX11_cost_5 (by decide) rfl ?_
  refine j_qload_n o (g := r1) rfl dX11_cost_6 ?_
  refine j_nonnull2 o (tgt := 14) dX11_cost_7 (by decide) (fun c4 => ?_) (fun c4 => ?_)
  · replace h := h.1 c4
    try rw [jrf_n P c4]
    refine j_lconst o (v := 0) dX11_cost_14 rfl ?_
    refine j_lstore_n o [(3, .long 0), (2, .ref (P.1 r1)), (0, .ref (P.1 1)), (1, .int a1)] dX11_cost_15 (by decide) rfl ?_
    refine j_iconst o (v := 0) dX11_cost_16 rfl ?_
    refine j_istore o [(5, .int 0), (3, .long 0), (2, .ref (P.1 r1)), (0, .ref (P.1 1)), (1, .int a1)] dX11_cost_17 (by decide) rfl ?_
    replace h := h (fun (x5 : Int64) (x6 : Int32) => J X P M N 0 0 E 6 19 [(0, .ref (P.1 1)), (2, .ref (P.1 r1)), (3, .long x5), (5, .int x6)] []) (by
      intro x5 x6 h
      refine j_iload o dX11_cost_19 rfl ?_
      refine j_aload_n o dX11_cost_21 rfl ?_
      refine j_getf o (g := 1) (slot := 0) (ci := 11) (v := .ref (P.1 2)) rfl jin_X11 (by decide) rfl jf_X11_23 (fun _ => rfl) rfl dX11_cost_22 ?_
      refine j_getf o (g := 2) (slot := 2) (ci := 3) (v := .int (M 2 2)) rfl jin_X3 (by decide) rfl jf_X11_77 (fun _ => rfl) rfl dX11_cost_25 ?_
      refine j_icmp_ge o (tgt := 65) dX11_cost_28 (by decide) (fun c7 => ?_) (fun c7 => ?_)
      · replace h := h.1 c7
        refine j_lload_n o dX11_cost_65 rfl ?_
        rw [hE]
        exact j_lret o dX11_cost_66 ⟨_, rfl, rfl, rfl, rfl, h⟩
      · replace h := h.2 c7
        refine j_lload_n o dX11_cost_31 rfl ?_
        refine j_aload_n o dX11_cost_32 rfl ?_
        refine j_getf o (g := 1) (slot := 5) (ci := 11) (v := .ref (P.1 7)) rfl jin_X11 (by decide) rfl jf_X11_62 (fun _ => rfl) rfl dX11_cost_33 ?_
        refine j_aload_n o dX11_cost_36 rfl ?_
        refine j_getf o (g := 1) (slot := 0) (ci := 11) (v := .ref (P.1 2)) rfl jin_X11 (by decide) rfl jf_X11_23 (fun _ => rfl) rfl dX11_cost_37 ?_
        refine j_getf o (g := 2) (slot := 1) (ci := 3) (v := .int (M 2 1)) rfl jin_X3 (by decide) rfl jf_X11_217 (fun _ => rfl) rfl dX11_cost_40 ?_
        refine j_iload o dX11_cost_43 rfl ?_
        refine j_callVl (g := 7) (ci := 5) o (c_X5_shareOfAll l P (M 2 1) x6 M N _ h) dX11_cost_45 jc_X11_269 jn_X5_shareOfAll rfl rfl rfl (fun _ => rfl) rfl rfl (fun r8 Mz9 Nz10 h => ?_)
        obtain ⟨rfl, rfl, h⟩ := h
        refine j_aload_n o dX11_cost_48 rfl ?_
        refine j_aload_n o dX11_cost_49 rfl ?_
        refine j_iload o dX11_cost_50 rfl ?_
        refine j_callVi (g := 1) (ci := 11) o (c_X11_minutesOn l P r1 x6 M N _ h) dX11_cost_52 jc_X11_307 jn_X11_minutesOn rfl rfl rfl (fun _ => rfl) rfl rfl (fun r11 Mz12 Nz13 h => ?_)
        obtain ⟨rfl, rfl, h⟩ := h
        refine j_i2l o dX11_cost_55 ?_
        refine j_lmul o dX11_cost_56 ?_
        refine j_ladd o dX11_cost_57 ?_
        refine j_lstore_n o [(3, .long (x5 + (r8 * r11.toInt64))), (0, .ref (P.1 1)), (2, .ref (P.1 r1)), (5, .int x6)] dX11_cost_58 (by decide) rfl ?_
        refine j_iinc o (v := x6 + 1) [(5, .int (x6 + 1)), (3, .long (x5 + (r8 * r11.toInt64))), (0, .ref (P.1 1)), (2, .ref (P.1 r1))] dX11_cost_59 rfl rfl (by decide) rfl ?_
        refine j_goto o (tgt := 19) dX11_cost_62 (by decide) ?_
        exact j_pick [2, 3, 1, 0] rfl h)
    exact j_pick [3, 2, 1, 0] rfl h
  · replace h := h.2 c4
    refine j_ldc2 o jk_X11_273 dX11_cost_10 ?_
    rw [hE]
    exact j_lret o dX11_cost_13 ⟨_, rfl, rfl, rfl, rfl, h⟩

abbrev rm_X11_longest : Room := { frames := 3, cells := 0, slots := 0, locals := 71 }
def w_X11_longest (P : jP) (a1 : Int32) (M : jM) (Q : Int32 → Prop) : Prop :=
  w_X11_formAt P a1 M (fun r1 =>
  (r1 ≠ 0 → (
   ∀ R17 : Int32 → Int32 → Prop, (∀ (x5 : Int32) (x6 : Int32), (
    ((M 2 2) ≤ x6 → (
     Q x5
    )) ∧ (¬ (M 2 2) ≤ x6 → (
     w_X11_minutesOn P r1 x6 M (fun r8 =>
     R17 (if x5 < r8 then r8 else x5) (x6 + 1))
    ))
   ) → R17 x5 x6) →
   R17 0 0
  )) ∧ (r1 = 0 → (
   Q (-1)
  )))
set_option maxRecDepth 20000 in
theorem c_X11_longest (l : Launch) (P : jP) (a1 : Int32) (M : jM) (N : jN) (Q : Int32 → Prop) (h : w_X11_longest P a1 M Q) : jC l yX11_longest cX11_longest 5 (some .int) rm_X11_longest LC [.ref (P.1 1), .int a1] P M N (jqi P (fun r M' N' => M = M' ∧ N = N' ∧ Q r )) := by
  refine jC_of (by decide +kernel) [(0, .ref (P.1 1)), (1, .int a1)] (Nat.le_of_ble_eq_true rfl) rfl (fun X o => ?_)
  obtain ⟨E, hE⟩ : ∃ E, E = jE X rm_X11_longest (jqi P (fun r M' N' => M = M' ∧ N = N' ∧ Q r )) := ⟨_, rfl⟩
  rw [← hE]
  unfold w_X11_longest at h
  refine j_aload_n o dX11_longest_0 rfl ?_
  refine j_iload_n o dX11_longest_1 rfl ?_
  refine j_callVr (g := 1) (ci := 11) o (c_X11_formAt l P a1 M N _ h) dX11_longest_2 jc_X11_237 jn_X11_formAt rfl rfl rfl (fun _ => rfl) rfl rfl (fun r1 Mz2 Nz3 h => ?_)
  obtain ⟨rfl, rfl, h⟩ := h
  refine j_qstore_n o [(2, jrf P r1), (0, .ref (P.1 1)), (1, .int a1)] dX11_longest_5 (by decide) rfl ?_
  refine j_qload_n o (g := r1) rfl dX11_longest_6 ?_
  refine j_nonnull2 o (tgt := 12) dX11_longest_7 (by decide) (fun c4 => ?_) (fun c4 => ?_)
  · replace h := h.1 c4
    try rw [jrf_n P c4]
    refine j_iconst o (v := 0) dX11_longest_12 rfl ?_
    refine j_istore_n o [(3, .int 0), (2, .ref (P.1 r1)), (0, .ref (P.1 1)), (1, .int a1)] dX11_longest_13 (by decide) rfl ?_
    refine j_iconst o (v := 0) dX11_longest_14 rfl ?_
    refine j_istore o [(4, .int 0), (3, .int 0), (2, .ref (P.1 r1)), (0, .ref (P.1 1)), (1, .int a1)] dX11_longest_15 (by decide) rfl ?_
    replace h := h (fun (x5 : Int32) (x6 : Int32) => J X P M N 0 0 E 5 17 [(0, .ref (P.1 1)), (2, .ref (P.1 r1)), (3, .int x5), (4, .int x6)] []) (by
      intro x5 x6 h
      refine j_iload o dX11_longest_17 rfl ?_
      refine j_aload_n o dX11_longest_19 rfl ?_
      refine j_getf o (g := 1) (slot := 0) (ci := 11) (v := .ref (P.1 2)) rfl jin_X11 (by decide) rfl jf_X11_23 (fun _ => rfl) rfl dX11_longest_20 ?_
      refine j_getf o (g := 2) (slot := 2) (ci := 3) (v := .int (M 2 2)) rfl jin_X3 (by decide) rfl jf_X11_77 (fun _ => rfl) rfl dX11_longest_23 ?_
      refine j_icmp_ge o (tgt := 47) dX11_longest_26 (by decide) (fun c7 => ?_) (fun c7 => ?_)
      · replace h := h.1 c7
        refine j_iload_n o dX11_longest_47 rfl ?_
        rw [hE]
        exact j_iret o dX11_longest_48 ⟨_, rfl, rfl, rfl, rfl, h⟩
      · replace h := h.2 c7
        refine j_iload_n o dX11_longest_29 rfl ?_
        refine j_aload_n o dX11_longest_30 rfl ?_
        refine j_aload_n o dX11_longest_31 rfl ?_
        refine j_iload o dX11_longest_32 rfl ?_
        refine j_callVi (g := 1) (ci := 11) o (c_X11_minutesOn l P r1 x6 M N _ h) dX11_longest_34 jc_X11_307 jn_X11_minutesOn rfl rfl rfl (fun _ => rfl) rfl rfl (fun r8 Mz9 Nz10 h => ?_)
        obtain ⟨rfl, rfl, h⟩ := h
        refine j_mmax o dX11_longest_37 jc_X11_15 rfl ?_
        refine j_istore_n o [(3, .int (if x5 < r8 then r8 else x5)), (0, .ref (P.1 1)), (2, .ref (P.1 r1)), (4, .int x6)] dX11_longest_40 (by decide) rfl ?_
        refine j_iinc o (v := x6 + 1) [(4, .int (x6 + 1)), (3, .int (if x5 < r8 then r8 else x5)), (0, .ref (P.1 1)), (2, .ref (P.1 r1))] dX11_longest_41 rfl rfl (by decide) rfl ?_
        refine j_goto o (tgt := 17) dX11_longest_44 (by decide) ?_
        exact j_pick [2, 3, 1, 0] rfl h)
    exact j_pick [3, 2, 1, 0] rfl h
  · replace h := h.2 c4
    refine j_iconst o (v := (-1)) dX11_longest_10 rfl ?_
    rw [hE]
    exact j_iret o dX11_longest_11 ⟨_, rfl, rfl, rfl, rfl, h⟩

abbrev rm_X11_page : Room := { frames := 3, cells := 0, slots := 0, locals := 69 }
def w_X11_page (P : jP) (a1 : Int32) (M : jM) (Q : Int32 → jM → Prop) : Prop :=
  w_X11_lawAt P a1 M (fun r1 =>
  (r1 ≠ 0 → (
   cLw P r1 = true ∧
   w_X6_cheapestThatTells P (r1 + 3) M (fun r6 M7 =>
   Q r6 M7)
  )) ∧ (r1 = 0 → (
   Q (-1) M
  )))
set_option maxRecDepth 20000 in
theorem c_X11_page (l : Launch) (P : jP) (a1 : Int32) (M : jM) (N : jN) (Q : Int32 → jM → Prop) (h : w_X11_page P a1 M Q) : jC l yX11_page cX11_page 3 (some .int) rm_X11_page LC [.ref (P.1 1), .int a1] P M N (jqi P (fun r M' N' => N = N' ∧ Q r M' )) := by
  refine jC_of (by decide +kernel) [(0, .ref (P.1 1)), (1, .int a1)] (Nat.le_of_ble_eq_true rfl) rfl (fun X o => ?_)
  obtain ⟨E, hE⟩ : ∃ E, E = jE X rm_X11_page (jqi P (fun r M' N' => N = N' ∧ Q r M' )) := ⟨_, rfl⟩
  rw [← hE]
  unfold w_X11_page at h
  refine j_aload_n o dX11_page_0 rfl ?_
  refine j_iload_n o dX11_page_1 rfl ?_
  refine j_callVr (g := 1) (ci := 11) o (c_X11_lawAt l P a1 M N _ h) dX11_page_2 jc_X11_191 jn_X11_lawAt rfl rfl rfl (fun _ => rfl) rfl rfl (fun r1 Mz2 Nz3 h => ?_)
  obtain ⟨rfl, rfl, h⟩ := h
  refine j_qstore_n o [(2, jrf P r1), (0, .ref (P.1 1)), (1, .int a1)] dX11_page_5 (by decide) rfl ?_
  refine j_qload_n o (g := r1) rfl dX11_page_6 ?_
  refine j_nonnull2 o (tgt := 14) dX11_page_7 (by decide) (fun c4 => ?_) (fun c4 => ?_)
  · replace h := h.1 c4
    try rw [jrf_n P c4]
    refine j_aload_n o dX11_page_14 rfl ?_
    refine j_getf o (g := 1) (slot := 7) (ci := 11) (v := .ref (P.1 9)) rfl jin_X11 (by decide) rfl jf_X11_82 (fun _ => rfl) rfl dX11_page_15 ?_
    refine j_aload_n o dX11_page_18 rfl ?_
    obtain ⟨hb5, h⟩ := h
    refine j_getf o (g := r1) (slot := 3) (ci := 4) (v := .ref (P.1 (r1 + 3))) rfl jin_X4 (by decide) rfl jf_X11_164 (fun tA => LC_lw hb5 tA _ _) rfl dX11_page_19 ?_
    refine j_callVi (g := 9) (ci := 6) o (c_X6_cheapestThatTells l P (r1 + 3) M N _ h) dX11_page_22 jc_X11_316 jn_X6_cheapestThatTells rfl rfl rfl (fun _ => rfl) rfl rfl (fun r6 M7 Nz8 h => ?_)
    obtain ⟨rfl, h⟩ := h
    rw [hE]
    exact j_iret o dX11_page_25 ⟨_, rfl, rfl, rfl, h⟩
  · replace h := h.2 c4
    refine j_iconst o (v := (-1)) dX11_page_10 rfl ?_
    refine j_goto o (tgt := 25) dX11_page_11 (by decide) ?_
    rw [hE]
    exact j_iret o dX11_page_25 ⟨_, rfl, rfl, rfl, h⟩

abbrev rm_X11_tells : Room := { frames := 1, cells := 0, slots := 0, locals := 25 }
def w_X11_tells (P : jP) (a1 : Int32) (a2 : Int32) (M : jM) (Q : Int32 → jM → Prop) : Prop :=
  w_X11_lawAt P a2 M (fun r1 =>
  (r1 = 0 → (
   Q (-1) M
  )) ∧ (r1 ≠ 0 → (
   (a1 < 0 → (
    Q (-1) M
   )) ∧ (¬ a1 < 0 → (
    (a1 < (M 9 0) → (
     cLw P r1 = true ∧
     w_X6_pairsParted P a1 (r1 + 3) M (fun r8 M9 =>
     Q r8 M9)
    )) ∧ (¬ a1 < (M 9 0) → (
     Q (-1) M
    ))
   ))
  )))
set_option maxRecDepth 20000 in
theorem c_X11_tells (l : Launch) (P : jP) (a1 : Int32) (a2 : Int32) (M : jM) (N : jN) (Q : Int32 → jM → Prop) (h : w_X11_tells P a1 a2 M Q) : jC l yX11_tells cX11_tells 4 (some .int) rm_X11_tells LC [.ref (P.1 1), .int a1, .int a2] P M N (jqi P (fun r M' N' => N = N' ∧ Q r M' )) := by
  refine jC_of (by decide +kernel) [(0, .ref (P.1 1)), (1, .int a1), (2, .int a2)] (Nat.le_of_ble_eq_true rfl) rfl (fun X o => ?_)
  obtain ⟨E, hE⟩ : ∃ E, E = jE X rm_X11_tells (jqi P (fun r M' N' => N = N' ∧ Q r M' )) := ⟨_, rfl⟩
  rw [← hE]
  unfold w_X11_tells at h
  refine j_aload_n o dX11_tells_0 rfl ?_
  refine j_iload_n o dX11_tells_1 rfl ?_
  refine j_callVr (g := 1) (ci := 11) o (c_X11_lawAt l P a2 M N _ h) dX11_tells_2 jc_X11_191 jn_X11_lawAt rfl rfl rfl (fun _ => rfl) rfl rfl (fun r1 Mz2 Nz3 h => ?_)
  obtain ⟨rfl, rfl, h⟩ := h
  refine j_qstore_n o [(3, jrf P r1), (0, .ref (P.1 1)), (1, .int a1), (2, .int a2)] dX11_tells_5 (by decide) rfl ?_
  refine j_qload_n o (g := r1) rfl dX11_tells_6 ?_
  refine j_null2 o (tgt := 25) dX11_tells_7 (by decide) (fun c4 => ?_) (fun c4 => ?_)
  · replace h := h.1 c4
    refine j_iconst o (v := (-1)) dX11_tells_25 rfl ?_
    rw [hE]
    exact j_iret o dX11_tells_26 ⟨_, rfl, rfl, rfl, h⟩
  · replace h := h.2 c4
    try rw [jrf_n P c4]
    refine j_iload_n o dX11_tells_10 rfl ?_
    refine j_if_lt o (tgt := 25) dX11_tells_11 (by decide) (fun c5 => ?_) (fun c5 => ?_)
    · replace h := h.1 c5
      refine j_iconst o (v := (-1)) dX11_tells_25 rfl ?_
      rw [hE]
      exact j_iret o dX11_tells_26 ⟨_, rfl, rfl, rfl, h⟩
    · replace h := h.2 c5
      refine j_iload_n o dX11_tells_14 rfl ?_
      refine j_aload_n o dX11_tells_15 rfl ?_
      refine j_getf o (g := 1) (slot := 7) (ci := 11) (v := .ref (P.1 9)) rfl jin_X11 (by decide) rfl jf_X11_82 (fun _ => rfl) rfl dX11_tells_16 ?_
      refine j_getf o (g := 9) (slot := 0) (ci := 6) (v := .int (M 9 0)) rfl jin_X6 (by decide) rfl jf_X11_320 (fun _ => rfl) rfl dX11_tells_19 ?_
      refine j_icmp_lt o (tgt := 27) dX11_tells_22 (by decide) (fun c6 => ?_) (fun c6 => ?_)
      · replace h := h.1 c6
        refine j_aload_n o dX11_tells_27 rfl ?_
        refine j_getf o (g := 1) (slot := 7) (ci := 11) (v := .ref (P.1 9)) rfl jin_X11 (by decide) rfl jf_X11_82 (fun _ => rfl) rfl dX11_tells_28 ?_
        refine j_iload_n o dX11_tells_31 rfl ?_
        refine j_aload_n o dX11_tells_32 rfl ?_
        obtain ⟨hb7, h⟩ := h
        refine j_getf o (g := r1) (slot := 3) (ci := 4) (v := .ref (P.1 (r1 + 3))) rfl jin_X4 (by decide) rfl jf_X11_164 (fun tA => LC_lw hb7 tA _ _) rfl dX11_tells_33 ?_
        refine j_callVi (g := 9) (ci := 6) o (c_X6_pairsParted l P a1 (r1 + 3) M N _ h) dX11_tells_36 jc_X11_323 jn_X6_pairsParted rfl rfl rfl (fun _ => rfl) rfl rfl (fun r8 M9 Nz10 h => ?_)
        obtain ⟨rfl, h⟩ := h
        rw [hE]
        exact j_iret o dX11_tells_39 ⟨_, rfl, rfl, rfl, h⟩
      · replace h := h.2 c6
        refine j_iconst o (v := (-1)) dX11_tells_25 rfl ?_
        rw [hE]
        exact j_iret o dX11_tells_26 ⟨_, rfl, rfl, rfl, h⟩

abbrev rm_X11_given : Room := { frames := 2, cells := 0, slots := 0, locals := 52 }
def w_X11_given (P : jP) (a1 : Int32) (a2 : Int32) (a3 : Int32) (a4 : Int32) (M : jM) (Q : Int32 → Prop) : Prop :=
  w_X11_lawAt P a1 M (fun r1 =>
  (r1 = 0 → (
   Q (-2)
  )) ∧ (r1 ≠ 0 → (
   (a4 < 0 → (
    Q (-2)
   )) ∧ (¬ a4 < 0 → (
    (2 < a4 → (
     Q (-2)
    )) ∧ (¬ 2 < a4 → (
     w_X6_isSet P a2 M (fun r7 =>
     (r7 = 0 → (
      Q (-2)
     )) ∧ (¬ r7 = 0 → (
      ((a3 &&& (a2 ^^^ (-1))) = 0 → (
       (¬ a4 = 1 → (
        cLw P r1 = true ∧
        w_X6_toldGiven P (r1 + 3) a2 a3 M (fun r14 =>
        (¬ a4 = 0 → (
         (¬ r14 = (-2) → (
          Q (-1)
         )) ∧ (r14 = (-2) → (
          w_X6_nextGiven P a2 a3 M (fun r19 =>
          Q r19)
         ))
        )) ∧ (a4 = 0 → (
         Q r14
        )))
       )) ∧ (a4 = 1 → (
        w_X6_casesGiven P a2 a3 M (fun r22 =>
        Q r22)
       ))
      )) ∧ (¬ (a3 &&& (a2 ^^^ (-1))) = 0 → (
       Q (-2)
      ))
     )))
    ))
   ))
  )))
set_option maxRecDepth 20000 in
theorem c_X11_given (l : Launch) (P : jP) (a1 : Int32) (a2 : Int32) (a3 : Int32) (a4 : Int32) (M : jM) (N : jN) (Q : Int32 → Prop) (h : w_X11_given P a1 a2 a3 a4 M Q) : jC l yX11_given cX11_given 7 (some .int) rm_X11_given LC [.ref (P.1 1), .int a1, .int a2, .int a3, .int a4] P M N (jqi P (fun r M' N' => M = M' ∧ N = N' ∧ Q r )) := by
  refine jC_of (by decide +kernel) [(0, .ref (P.1 1)), (1, .int a1), (2, .int a2), (3, .int a3), (4, .int a4)] (Nat.le_of_ble_eq_true rfl) rfl (fun X o => ?_)
  obtain ⟨E, hE⟩ : ∃ E, E = jE X rm_X11_given (jqi P (fun r M' N' => M = M' ∧ N = N' ∧ Q r )) := ⟨_, rfl⟩
  rw [← hE]
  unfold w_X11_given at h
  refine j_aload_n o dX11_given_0 rfl ?_
  refine j_iload_n o dX11_given_1 rfl ?_
  refine j_callVr (g := 1) (ci := 11) o (c_X11_lawAt l P a1 M N _ h) dX11_given_2 jc_X11_191 jn_X11_lawAt rfl rfl rfl (fun _ => rfl) rfl rfl (fun r1 Mz2 Nz3 h => ?_)
  obtain ⟨rfl, rfl, h⟩ := h
  refine j_qstore o [(5, jrf P r1), (0, .ref (P.1 1)), (1, .int a1), (2, .int a2), (3, .int a3), (4, .int a4)] dX11_given_5 (by decide) rfl ?_
  refine j_qload o (g := r1) rfl dX11_given_7 ?_
  refine j_null2 o (tgt := 42) dX11_given_9 (by decide) (fun c4 => ?_) (fun c4 => ?_)
  · replace h := h.1 c4
    refine j_bipush o (v := (-2)) dX11_given_42 rfl ?_
    rw [hE]
    exact j_iret o dX11_given_44 ⟨_, rfl, rfl, rfl, rfl, h⟩
  · replace h := h.2 c4
    try rw [jrf_n P c4]
    refine j_iload o dX11_given_12 rfl ?_
    refine j_if_lt o (tgt := 42) dX11_given_14 (by decide) (fun c5 => ?_) (fun c5 => ?_)
    · replace h := h.1 c5
      refine j_bipush o (v := (-2)) dX11_given_42 rfl ?_
      rw [hE]
      exact j_iret o dX11_given_44 ⟨_, rfl, rfl, rfl, rfl, h⟩
    · replace h := h.2 c5
      refine j_iload o dX11_given_17 rfl ?_
      refine j_iconst o (v := 2) dX11_given_19 rfl ?_
      refine j_icmp_gt o (tgt := 42) dX11_given_20 (by decide) (fun c6 => ?_) (fun c6 => ?_)
      · replace h := h.1 c6
        refine j_bipush o (v := (-2)) dX11_given_42 rfl ?_
        rw [hE]
        exact j_iret o dX11_given_44 ⟨_, rfl, rfl, rfl, rfl, h⟩
      · replace h := h.2 c6
        refine j_aload_n o dX11_given_23 rfl ?_
        refine j_getf o (g := 1) (slot := 7) (ci := 11) (v := .ref (P.1 9)) rfl jin_X11 (by decide) rfl jf_X11_82 (fun _ => rfl) rfl dX11_given_24 ?_
        refine j_iload_n o dX11_given_27 rfl ?_
        refine j_callVi (g := 9) (ci := 6) o (c_X6_isSet l P a2 M N _ h) dX11_given_28 jc_X11_327 jn_X6_isSet rfl rfl rfl (fun _ => rfl) rfl rfl (fun r7 Mz8 Nz9 h => ?_)
        obtain ⟨rfl, rfl, h⟩ := h
        refine j_if_eq o (tgt := 42) dX11_given_31 (by decide) (fun c10 => ?_) (fun c10 => ?_)
        · replace h := h.1 c10
          refine j_bipush o (v := (-2)) dX11_given_42 rfl ?_
          rw [hE]
          exact j_iret o dX11_given_44 ⟨_, rfl, rfl, rfl, rfl, h⟩
        · replace h := h.2 c10
          refine j_iload_n o dX11_given_34 rfl ?_
          refine j_iload_n o dX11_given_35 rfl ?_
          refine j_iconst o (v := (-1)) dX11_given_36 rfl ?_
          refine j_ixor o dX11_given_37 ?_
          refine j_iand o dX11_given_38 ?_
          refine j_if_eq o (tgt := 45) dX11_given_39 (by decide) (fun c11 => ?_) (fun c11 => ?_)
          · replace h := h.1 c11
            refine j_iload o dX11_given_45 rfl ?_
            refine j_iconst o (v := 1) dX11_given_47 rfl ?_
            refine j_icmp_ne o (tgt := 61) dX11_given_48 (by decide) (fun c12 => ?_) (fun c12 => ?_)
            · replace h := h.1 c12
              refine j_aload_n o dX11_given_61 rfl ?_
              refine j_getf o (g := 1) (slot := 7) (ci := 11) (v := .ref (P.1 9)) rfl jin_X11 (by decide) rfl jf_X11_82 (fun _ => rfl) rfl dX11_given_62 ?_
              refine j_aload o dX11_given_65 rfl ?_
              obtain ⟨hb13, h⟩ := h
              refine j_getf o (g := r1) (slot := 3) (ci := 4) (v := .ref (P.1 (r1 + 3))) rfl jin_X4 (by decide) rfl jf_X11_164 (fun tA => LC_lw hb13 tA _ _) rfl dX11_given_67 ?_
              refine j_iload_n o dX11_given_70 rfl ?_
              refine j_iload_n o dX11_given_71 rfl ?_
              refine j_callVi (g := 9) (ci := 6) o (c_X6_toldGiven l P (r1 + 3) a2 a3 M N _ h) dX11_given_72 jc_X11_333 jn_X6_toldGiven rfl rfl rfl (fun _ => rfl) rfl rfl (fun r14 Mz15 Nz16 h => ?_)
              obtain ⟨rfl, rfl, h⟩ := h
              refine j_istore o [(6, .int r14), (5, .ref (P.1 r1)), (0, .ref (P.1 1)), (1, .int a1), (2, .int a2), (3, .int a3), (4, .int a4)] dX11_given_75 (by decide) rfl ?_
              refine j_iload o dX11_given_77 rfl ?_
              refine j_if_ne o (tgt := 85) dX11_given_79 (by decide) (fun c17 => ?_) (fun c17 => ?_)
              · replace h := h.1 c17
                refine j_iload o dX11_given_85 rfl ?_
                refine j_bipush o (v := (-2)) dX11_given_87 rfl ?_
                refine j_icmp_ne o (tgt := 104) dX11_given_89 (by decide) (fun c18 => ?_) (fun c18 => ?_)
                · replace h := h.1 c18
                  refine j_iconst o (v := (-1)) dX11_given_104 rfl ?_
                  rw [hE]
                  exact j_iret o dX11_given_105 ⟨_, rfl, rfl, rfl, rfl, h⟩
                · replace h := h.2 c18
                  refine j_aload_n o dX11_given_92 rfl ?_
                  refine j_getf o (g := 1) (slot := 7) (ci := 11) (v := .ref (P.1 9)) rfl jin_X11 (by decide) rfl jf_X11_82 (fun _ => rfl) rfl dX11_given_93 ?_
                  refine j_iload_n o dX11_given_96 rfl ?_
                  refine j_iload_n o dX11_given_97 rfl ?_
                  refine j_callVi (g := 9) (ci := 6) o (c_X6_nextGiven l P a2 a3 M N _ h) dX11_given_98 jc_X11_337 jn_X6_nextGiven rfl rfl rfl (fun _ => rfl) rfl rfl (fun r19 Mz20 Nz21 h => ?_)
                  obtain ⟨rfl, rfl, h⟩ := h
                  refine j_goto o (tgt := 105) dX11_given_101 (by decide) ?_
                  rw [hE]
                  exact j_iret o dX11_given_105 ⟨_, rfl, rfl, rfl, rfl, h⟩
              · replace h := h.2 c17
                refine j_iload o dX11_given_82 rfl ?_
                rw [hE]
                exact j_iret o dX11_given_84 ⟨_, rfl, rfl, rfl, rfl, h⟩
            · replace h := h.2 c12
              refine j_aload_n o dX11_given_51 rfl ?_
              refine j_getf o (g := 1) (slot := 7) (ci := 11) (v := .ref (P.1 9)) rfl jin_X11 (by decide) rfl jf_X11_82 (fun _ => rfl) rfl dX11_given_52 ?_
              refine j_iload_n o dX11_given_55 rfl ?_
              refine j_iload_n o dX11_given_56 rfl ?_
              refine j_callVi (g := 9) (ci := 6) o (c_X6_casesGiven l P a2 a3 M N _ h) dX11_given_57 jc_X11_330 jn_X6_casesGiven rfl rfl rfl (fun _ => rfl) rfl rfl (fun r22 Mz23 Nz24 h => ?_)
              obtain ⟨rfl, rfl, h⟩ := h
              rw [hE]
              exact j_iret o dX11_given_60 ⟨_, rfl, rfl, rfl, rfl, h⟩
          · replace h := h.2 c11
            refine j_bipush o (v := (-2)) dX11_given_42 rfl ?_
            rw [hE]
            exact j_iret o dX11_given_44 ⟨_, rfl, rfl, rfl, rfl, h⟩

abbrev rm_X11_offBehind : Room := { frames := 0, cells := 0, slots := 0, locals := 0 }
def w_X11_offBehind (P : jP) (a1 : Int32) (a2 : Int64) (a3 : Int32) (N : jN) (Q : Int64 → jN → Prop) : Prop :=
  ∀ R22 : Prop, ((
   (¬ (a1 - 13) = a3 → (
    Q a2 N
   )) ∧ ((a1 - 13) = a3 → (
    Q 0 N
   ))
  ) → R22) →
  (a1 < 0 → (
   R22
  )) ∧ (¬ a1 < 0 → (
   (12 ≤ a1 → (
    R22
   )) ∧ (¬ 12 ≤ a1 → (
    vp_in a1 (12) ∧
    vp_in a1 (12) ∧
    ∀ N6 : jN, N6 = upN N 14 a1.toNatClampNeg ((N 14 a1.toNatClampNeg) + a2) →
    Q 0 N6
   ))
  ))
set_option maxRecDepth 20000 in
theorem c_X11_offBehind (l : Launch) (P : jP) (a1 : Int32) (a2 : Int64) (a3 : Int32) (M : jM) (N : jN) (Q : Int64 → jN → Prop) (h : w_X11_offBehind P a1 a2 a3 N Q) : jC l yX11_offBehind cX11_offBehind 5 (some .long) rm_X11_offBehind LC [.ref (P.1 1), .int a1, .long a2, .int a3] P M N (jql P (fun r M' N' => M = M' ∧ Q r N')) := by
  refine jC_of (by decide +kernel) [(0, .ref (P.1 1)), (1, .int a1), (2, .long a2), (4, .int a3)] (Nat.le_of_ble_eq_true rfl) rfl (fun X o => ?_)
  obtain ⟨E, hE⟩ : ∃ E, E = jE X rm_X11_offBehind (jql P (fun r M' N' => M = M' ∧ Q r N')) := ⟨_, rfl⟩
  rw [← hE]
  unfold w_X11_offBehind at h
  refine j_iload_n o dX11_offBehind_0 rfl ?_
  replace h := h (J X P M N 0 0 E 5 22 [(1, .int a1), (2, .long a2), (4, .int a3)] []) (by
    intro h
    refine j_iload_n o dX11_offBehind_22 rfl ?_
    refine j_bipush o (v := 13) dX11_offBehind_23 rfl ?_
    refine j_isub o dX11_offBehind_25 ?_
    refine j_iload o dX11_offBehind_26 rfl ?_
    refine j_icmp_ne o (tgt := 35) dX11_offBehind_28 (by decide) (fun c1 => ?_) (fun c1 => ?_)
    · replace h := h.1 c1
      refine j_lload_n o dX11_offBehind_35 rfl ?_
      rw [hE]
      exact j_lret o dX11_offBehind_36 ⟨_, rfl, rfl, rfl, h⟩
    · replace h := h.2 c1
      refine j_lconst o (v := 0) dX11_offBehind_31 rfl ?_
      refine j_goto o (tgt := 36) dX11_offBehind_32 (by decide) ?_
      rw [hE]
      exact j_lret o dX11_offBehind_36 ⟨_, rfl, rfl, rfl, h⟩)
  refine j_if_lt o (tgt := 22) dX11_offBehind_1 (by decide) (fun c2 => ?_) (fun c2 => ?_)
  · replace h := h.1 c2
    exact j_pick [1, 2, 3] rfl h
  · replace h := h.2 c2
    refine j_iload_n o dX11_offBehind_4 rfl ?_
    refine j_bipush o (v := 12) dX11_offBehind_5 rfl ?_
    refine j_icmp_ge o (tgt := 22) dX11_offBehind_7 (by decide) (fun c3 => ?_) (fun c3 => ?_)
    · replace h := h.1 c3
      exact j_pick [1, 2, 3] rfl h
    · replace h := h.2 c3
      refine j_aload_n o dX11_offBehind_10 rfl ?_
      refine j_getf o (g := 1) (slot := 14) (ci := 11) (v := .ref (P.1 14)) rfl jin_X11 (by decide) rfl jf_X11_109 (fun _ => rfl) rfl dX11_offBehind_11 ?_
      refine j_iload_n o dX11_offBehind_14 rfl ?_
      refine j_dup2 o dX11_offBehind_15 rfl rfl ?_
      obtain ⟨hb4, h⟩ := h
      refine j_lald o (g := 14) (fun _ => rfl) hb4 dX11_offBehind_16 ?_
      refine j_lload_n o dX11_offBehind_17 rfl ?_
      refine j_ladd o dX11_offBehind_18 ?_
      obtain ⟨hb5, h⟩ := h
      refine j_last o (g := 14) (fun _ _ _ => rfl) hb5 dX11_offBehind_19 ?_
      refine j_nameN (fun N6 hN6 => ?_)
      replace h := h N6 hN6
      refine j_lconst o (v := 0) dX11_offBehind_20 rfl ?_
      rw [hE]
      exact j_lret o dX11_offBehind_21 ⟨_, rfl, rfl, rfl, h⟩

abbrev rm_X11_offOn : Room := { frames := 1, cells := 0, slots := 0, locals := 24 }
def w_X11_offOn (P : jP) (a1 : Nat) (a2 : Nat) (a3 : Int32) (a4 : Int32) (M : jM) (N : jN) (Q : Int64 → jN → Prop) : Prop :=
  ∀ R3 : Int32 → jN → Prop, (∀ (x1 : Int32) (N2 : jN), (
   (12 ≤ x1 → (
    vp_in 0 (12) ∧
    ∀ N5 : jN, N5 = upN N2 14 (0 : Int32).toNatClampNeg 1000000000000 →
    ∀ R39 : Int64 → Int32 → jN → Prop, (∀ (x6 : Int64) (x7 : Int32) (N8 : jN), (
     cFm P a1 = true ∧
     ((M a1 0) ≤ x7 → (
      Q x6 N8
     )) ∧ (¬ (M a1 0) ≤ x7 → (
      cFm P a1 = true ∧
      jin P (a1 + 1) x7 ∧
      ∀ R91 : Int64 → Prop, (∀ (x13 : Int64), (
       ∀ R107 : Int32 → Prop, (∀ (x14 : Int32), (
        ∀ R129 : Int64 → Prop, (∀ (x15 : Int64), (
         cFm P a1 = true ∧
         jin P (a1 + 2) x7 ∧
         cLw P a2 = true ∧
         jin P (a2 + 3) a3 ∧
         w_X11_offBehind P (M (a1 + 2) x7.toNatClampNeg) x15 (M (a2 + 3) a3.toNatClampNeg) N8 (fun r20 N21 =>
         cFm P a1 = true ∧
         jin P (a1 + 3) x7 ∧
         vp_in x7 (12) ∧
         cLw P a2 = true ∧
         jin P (a2 + 3) a3 ∧
         w_X11_offBehind P (M (a1 + 3) x7.toNatClampNeg) ((N21 14 x7.toNatClampNeg) - x15) (M (a2 + 3) a3.toNatClampNeg) N21 (fun r28 N29 =>
         R39 ((x6 + r20) + r28) (x7 + 1) N29))
        ) → R129 x15) →
        (x14 = 0 → (
         R129 x13
        )) ∧ (¬ x14 = 0 → (
         vp_in x7 (12) ∧
         R129 ((N8 14 x7.toNatClampNeg) - x13)
        ))
       ) → R107 x14) →
       (((a3 >>> ((M (a1 + 1) x7.toNatClampNeg) &&& 31)) &&& 1) = 0 → (
        R107 0
       )) ∧ (¬ ((a3 >>> ((M (a1 + 1) x7.toNatClampNeg) &&& 31)) &&& 1) = 0 → (
        R107 1
       ))
      ) → R91 x13) →
      (¬ (M (a1 + 1) x7.toNatClampNeg) = a4 → (
       vp_in x7 (12) ∧
       vp_in (M (a1 + 1) x7.toNatClampNeg) (P.2.2 0) ∧
       R91 (((N8 14 x7.toNatClampNeg) / 10) * ((M 28 (M (a1 + 1) x7.toNatClampNeg).toNatClampNeg).toInt64))
      )) ∧ ((M (a1 + 1) x7.toNatClampNeg) = a4 → (
       R91 0
      ))
     ))
    ) → R39 x6 x7 N8) →
    R39 0 0 N5
   )) ∧ (¬ 12 ≤ x1 → (
    vp_in x1 (12) ∧
    R3 (x1 + 1) (upN N2 14 x1.toNatClampNeg 0)
   ))
  ) → R3 x1 N2) →
  R3 0 N
set_option maxRecDepth 20000 in
theorem c_X11_offOn (l : Launch) (P : jP) (a1 : Nat) (a2 : Nat) (a3 : Int32) (a4 : Int32) (M : jM) (N : jN) (Q : Int64 → jN → Prop) (h : w_X11_offOn P a1 a2 a3 a4 M N Q) : jC l yX11_offOn cX11_offOn 14 (some .long) rm_X11_offOn LC [.ref (P.1 1), .ref (P.1 a1), .ref (P.1 a2), .int a3, .int a4] P M N (jql P (fun r M' N' => M = M' ∧ Q r N')) := by
  refine jC_of (by decide +kernel) [(0, .ref (P.1 1)), (1, .ref (P.1 a1)), (2, .ref (P.1 a2)), (3, .int a3), (4, .int a4)] (Nat.le_of_ble_eq_true rfl) rfl (fun X o => ?_)
  obtain ⟨E, hE⟩ : ∃ E, E = jE X rm_X11_offOn (jql P (fun r M' N' => M = M' ∧ Q r N')) := ⟨_, rfl⟩
  rw [← hE]
  unfold w_X11_offOn at h
  refine j_iconst o (v := 0) dX11_offOn_0 rfl ?_
  refine j_istore o [(5, .int 0), (0, .ref (P.1 1)), (1, .ref (P.1 a1)), (2, .ref (P.1 a2)), (3, .int a3), (4, .int a4)] dX11_offOn_1 (by decide) rfl ?_
  replace h := h (fun (x1 : Int32) (N2 : jN) => J X P M N2 0 0 E 14 3 [(0, .ref (P.1 1)), (1, .ref (P.1 a1)), (2, .ref (P.1 a2)), (3, .int a3), (4, .int a4), (5, .int x1)] []) (by
    intro x1 N2 h
    refine j_iload o dX11_offOn_3 rfl ?_
    refine j_bipush o (v := 12) dX11_offOn_5 rfl ?_
    refine j_icmp_ge o (tgt := 24) dX11_offOn_7 (by decide) (fun c3 => ?_) (fun c3 => ?_)
    · replace h := h.1 c3
      refine j_aload_n o dX11_offOn_24 rfl ?_
      refine j_getf o (g := 1) (slot := 14) (ci := 11) (v := .ref (P.1 14)) rfl jin_X11 (by decide) rfl jf_X11_109 (fun _ => rfl) rfl dX11_offOn_25 ?_
      refine j_iconst o (v := 0) dX11_offOn_28 rfl ?_
      refine j_ldc2 o jk_X11_344 dX11_offOn_29 ?_
      obtain ⟨hb4, h⟩ := h
      refine j_last o (g := 14) (fun _ _ _ => rfl) hb4 dX11_offOn_32 ?_
      refine j_nameN (fun N5 hN5 => ?_)
      replace h := h N5 hN5
      refine j_lconst o (v := 0) dX11_offOn_33 rfl ?_
      refine j_lstore o [(5, .long 0), (0, .ref (P.1 1)), (1, .ref (P.1 a1)), (2, .ref (P.1 a2)), (3, .int a3), (4, .int a4)] dX11_offOn_34 (by decide) rfl ?_
      refine j_iconst o (v := 0) dX11_offOn_36 rfl ?_
      refine j_istore o [(7, .int 0), (5, .long 0), (0, .ref (P.1 1)), (1, .ref (P.1 a1)), (2, .ref (P.1 a2)), (3, .int a3), (4, .int a4)] dX11_offOn_37 (by decide) rfl ?_
      replace h := h (fun (x6 : Int64) (x7 : Int32) (N8 : jN) => J X P M N8 0 0 E 14 39 [(0, .ref (P.1 1)), (1, .ref (P.1 a1)), (2, .ref (P.1 a2)), (3, .int a3), (4, .int a4), (5, .long x6), (7, .int x7)] []) (by
        intro x6 x7 N8 h
        refine j_iload o dX11_offOn_39 rfl ?_
        refine j_aload_n o dX11_offOn_41 rfl ?_
        obtain ⟨hb9, h⟩ := h
        refine j_getf o (g := a1) (slot := 0) (ci := 2) (v := .int (M a1 0)) rfl jin_X2 (by decide) rfl jf_X11_250 (fun tA => LC_fm hb9 tA _ _) rfl dX11_offOn_42 ?_
        refine j_icmp_ge o (tgt := 193) dX11_offOn_45 (by decide) (fun c10 => ?_) (fun c10 => ?_)
        · replace h := h.1 c10
          refine j_lload o dX11_offOn_193 rfl ?_
          rw [hE]
          exact j_lret o dX11_offOn_195 ⟨_, rfl, rfl, rfl, h⟩
        · replace h := h.2 c10
          refine j_aload_n o dX11_offOn_48 rfl ?_
          obtain ⟨hb11, h⟩ := h
          refine j_getf o (g := a1) (slot := 1) (ci := 2) (v := .ref (P.1 (a1 + 1))) rfl jin_X2 (by decide) rfl jf_X11_314 (fun tA => LC_fm hb11 tA _ _) rfl dX11_offOn_49 ?_
          refine j_iload o dX11_offOn_52 rfl ?_
          obtain ⟨hb12, h⟩ := h
          obtain ⟨nnhb12, hchb12, hihb12⟩ := hb12
          refine j_iald o (g := a1 + 1) (fun tA => LC_ia hchb12 tA _ _) hihb12 dX11_offOn_54 ?_
          refine j_istore o [(8, .int (M (a1 + 1) x7.toNatClampNeg)), (0, .ref (P.1 1)), (1, .ref (P.1 a1)), (2, .ref (P.1 a2)), (3, .int a3), (4, .int a4), (5, .long x6), (7, .int x7)] dX11_offOn_55 (by decide) rfl ?_
          refine j_iload o dX11_offOn_57 rfl ?_
          refine j_iload o dX11_offOn_59 rfl ?_
          replace h := h (fun (x13 : Int64) => J X P M N8 0 0 E 14 91 [(0, .ref (P.1 1)), (1, .ref (P.1 a1)), (2, .ref (P.1 a2)), (3, .int a3), (4, .int a4), (5, .long x6), (7, .int x7), (8, .int (M (a1 + 1) x7.toNatClampNeg))] [.long x13]) (by
            intro x13 h
            refine j_lstore o [(9, .long x13), (0, .ref (P.1 1)), (1, .ref (P.1 a1)), (2, .ref (P.1 a2)), (3, .int a3), (4, .int a4), (5, .long x6), (7, .int x7), (8, .int (M (a1 + 1) x7.toNatClampNeg))] dX11_offOn_91 (by decide) rfl ?_
            refine j_iload_n o dX11_offOn_93 rfl ?_
            refine j_iload o dX11_offOn_94 rfl ?_
            refine j_ishr o dX11_offOn_96 ?_
            refine j_iconst o (v := 1) dX11_offOn_97 rfl ?_
            refine j_iand o dX11_offOn_98 ?_
            replace h := h (fun (x14 : Int32) => J X P M N8 0 0 E 14 107 [(0, .ref (P.1 1)), (1, .ref (P.1 a1)), (2, .ref (P.1 a2)), (3, .int a3), (4, .int a4), (5, .long x6), (7, .int x7), (9, .long x13)] [.int x14]) (by
              intro x14 h
              refine j_istore o [(11, .int x14), (0, .ref (P.1 1)), (1, .ref (P.1 a1)), (2, .ref (P.1 a2)), (3, .int a3), (4, .int a4), (5, .long x6), (7, .int x7), (9, .long x13)] dX11_offOn_107 (by decide) rfl ?_
              refine j_iload o dX11_offOn_109 rfl ?_
              replace h := h (fun (x15 : Int64) => J X P M N8 0 0 E 14 129 [(0, .ref (P.1 1)), (1, .ref (P.1 a1)), (2, .ref (P.1 a2)), (3, .int a3), (4, .int a4), (5, .long x6), (7, .int x7)] [.long x15]) (by
                intro x15 h
                refine j_lstore o [(12, .long x15), (0, .ref (P.1 1)), (1, .ref (P.1 a1)), (2, .ref (P.1 a2)), (3, .int a3), (4, .int a4), (5, .long x6), (7, .int x7)] dX11_offOn_129 (by decide) rfl ?_
                refine j_lload o dX11_offOn_131 rfl ?_
                refine j_aload_n o dX11_offOn_133 rfl ?_
                refine j_aload_n o dX11_offOn_134 rfl ?_
                obtain ⟨hb16, h⟩ := h
                refine j_getf o (g := a1) (slot := 2) (ci := 2) (v := .ref (P.1 (a1 + 2))) rfl jin_X2 (by decide) rfl jf_X11_351 (fun tA => LC_fm hb16 tA _ _) rfl dX11_offOn_135 ?_
                refine j_iload o dX11_offOn_138 rfl ?_
                obtain ⟨hb17, h⟩ := h
                obtain ⟨nnhb17, hchb17, hihb17⟩ := hb17
                refine j_iald o (g := a1 + 2) (fun tA => LC_ia hchb17 tA _ _) hihb17 dX11_offOn_140 ?_
                refine j_lload o dX11_offOn_141 rfl ?_
                refine j_aload_n o dX11_offOn_143 rfl ?_
                obtain ⟨hb18, h⟩ := h
                refine j_getf o (g := a2) (slot := 3) (ci := 4) (v := .ref (P.1 (a2 + 3))) rfl jin_X4 (by decide) rfl jf_X11_164 (fun tA => LC_lw hb18 tA _ _) rfl dX11_offOn_144 ?_
                refine j_iload_n o dX11_offOn_147 rfl ?_
                obtain ⟨hb19, h⟩ := h
                obtain ⟨nnhb19, hchb19, hihb19⟩ := hb19
                refine j_iald o (g := a2 + 3) (fun tA => LC_ia hchb19 tA _ _) hihb19 dX11_offOn_148 ?_
                refine j_callVl (g := 1) (ci := 11) o (c_X11_offBehind l P (M (a1 + 2) x7.toNatClampNeg) x15 (M (a2 + 3) a3.toNatClampNeg) M N8 _ h) dX11_offOn_149 jc_X11_354 jn_X11_offBehind rfl rfl rfl (fun _ => rfl) rfl rfl (fun r20 Mz22 N21 h => ?_)
                obtain ⟨rfl, h⟩ := h
                refine j_ladd o dX11_offOn_152 ?_
                refine j_lstore o [(5, .long (x6 + r20)), (12, .long x15), (0, .ref (P.1 1)), (1, .ref (P.1 a1)), (2, .ref (P.1 a2)), (3, .int a3), (4, .int a4), (7, .int x7)] dX11_offOn_153 (by decide) rfl ?_
                refine j_lload o dX11_offOn_155 rfl ?_
                refine j_aload_n o dX11_offOn_157 rfl ?_
                refine j_aload_n o dX11_offOn_158 rfl ?_
                obtain ⟨hb23, h⟩ := h
                refine j_getf o (g := a1) (slot := 3) (ci := 2) (v := .ref (P.1 (a1 + 3))) rfl jin_X2 (by decide) rfl jf_X11_358 (fun tA => LC_fm hb23 tA _ _) rfl dX11_offOn_159 ?_
                refine j_iload o dX11_offOn_162 rfl ?_
                obtain ⟨hb24, h⟩ := h
                obtain ⟨nnhb24, hchb24, hihb24⟩ := hb24
                refine j_iald o (g := a1 + 3) (fun tA => LC_ia hchb24 tA _ _) hihb24 dX11_offOn_164 ?_
                refine j_aload_n o dX11_offOn_165 rfl ?_
                refine j_getf o (g := 1) (slot := 14) (ci := 11) (v := .ref (P.1 14)) rfl jin_X11 (by decide) rfl jf_X11_109 (fun _ => rfl) rfl dX11_offOn_166 ?_
                refine j_iload o dX11_offOn_169 rfl ?_
                obtain ⟨hb25, h⟩ := h
                refine j_lald o (g := 14) (fun _ => rfl) hb25 dX11_offOn_171 ?_
                refine j_lload o dX11_offOn_172 rfl ?_
                refine j_lsub o dX11_offOn_174 ?_
                refine j_aload_n o dX11_offOn_175 rfl ?_
                obtain ⟨hb26, h⟩ := h
                refine j_getf o (g := a2) (slot := 3) (ci := 4) (v := .ref (P.1 (a2 + 3))) rfl jin_X4 (by decide) rfl jf_X11_164 (fun tA => LC_lw hb26 tA _ _) rfl dX11_offOn_176 ?_
                refine j_iload_n o dX11_offOn_179 rfl ?_
                obtain ⟨hb27, h⟩ := h
                obtain ⟨nnhb27, hchb27, hihb27⟩ := hb27
                refine j_iald o (g := a2 + 3) (fun tA => LC_ia hchb27 tA _ _) hihb27 dX11_offOn_180 ?_
                refine j_callVl (g := 1) (ci := 11) o (c_X11_offBehind l P (M (a1 + 3) x7.toNatClampNeg) ((N21 14 x7.toNatClampNeg) - x15) (M (a2 + 3) a3.toNatClampNeg) M N21 _ h) dX11_offOn_181 jc_X11_354 jn_X11_offBehind rfl rfl rfl (fun _ => rfl) rfl rfl (fun r28 Mz30 N29 h => ?_)
                obtain ⟨rfl, h⟩ := h
                refine j_ladd o dX11_offOn_184 ?_
                refine j_lstore o [(5, .long ((x6 + r20) + r28)), (12, .long x15), (0, .ref (P.1 1)), (1, .ref (P.1 a1)), (2, .ref (P.1 a2)), (3, .int a3), (4, .int a4), (7, .int x7)] dX11_offOn_185 (by decide) rfl ?_
                refine j_iinc o (v := x7 + 1) [(7, .int (x7 + 1)), (5, .long ((x6 + r20) + r28)), (12, .long x15), (0, .ref (P.1 1)), (1, .ref (P.1 a1)), (2, .ref (P.1 a2)), (3, .int a3), (4, .int a4)] dX11_offOn_187 rfl rfl (by decide) rfl ?_
                refine j_goto o (tgt := 39) dX11_offOn_190 (by decide) ?_
                exact j_pick [3, 4, 5, 6, 7, 1, 0] rfl h)
              refine j_if_eq o (tgt := 127) dX11_offOn_111 (by decide) (fun c31 => ?_) (fun c31 => ?_)
              · replace h := h.1 c31
                refine j_lload o dX11_offOn_127 rfl ?_
                exact j_pick [1, 2, 3, 4, 5, 6, 7] rfl h
              · replace h := h.2 c31
                refine j_aload_n o dX11_offOn_114 rfl ?_
                refine j_getf o (g := 1) (slot := 14) (ci := 11) (v := .ref (P.1 14)) rfl jin_X11 (by decide) rfl jf_X11_109 (fun _ => rfl) rfl dX11_offOn_115 ?_
                refine j_iload o dX11_offOn_118 rfl ?_
                obtain ⟨hb32, h⟩ := h
                refine j_lald o (g := 14) (fun _ => rfl) hb32 dX11_offOn_120 ?_
                refine j_lload o dX11_offOn_121 rfl ?_
                refine j_lsub o dX11_offOn_123 ?_
                refine j_goto o (tgt := 129) dX11_offOn_124 (by decide) ?_
                exact j_pick [1, 2, 3, 4, 5, 6, 7] rfl h)
            refine j_if_eq o (tgt := 106) dX11_offOn_99 (by decide) (fun c33 => ?_) (fun c33 => ?_)
            · replace h := h.1 c33
              refine j_iconst o (v := 0) dX11_offOn_106 rfl ?_
              exact j_pick [1, 2, 3, 4, 5, 6, 7, 0] rfl h
            · replace h := h.2 c33
              refine j_iconst o (v := 1) dX11_offOn_102 rfl ?_
              refine j_goto o (tgt := 107) dX11_offOn_103 (by decide) ?_
              exact j_pick [1, 2, 3, 4, 5, 6, 7, 0] rfl h)
          refine j_icmp_ne o (tgt := 68) dX11_offOn_61 (by decide) (fun c34 => ?_) (fun c34 => ?_)
          · replace h := h.1 c34
            refine j_aload_n o dX11_offOn_68 rfl ?_
            refine j_getf o (g := 1) (slot := 14) (ci := 11) (v := .ref (P.1 14)) rfl jin_X11 (by decide) rfl jf_X11_109 (fun _ => rfl) rfl dX11_offOn_69 ?_
            refine j_iload o dX11_offOn_72 rfl ?_
            obtain ⟨hb35, h⟩ := h
            refine j_lald o (g := 14) (fun _ => rfl) hb35 dX11_offOn_74 ?_
            refine j_ldc2 o jk_X11_346 dX11_offOn_75 ?_
            refine j_ldiv o dX11_offOn_78 (by decide) ?_
            refine j_aload_n o dX11_offOn_79 rfl ?_
            refine j_getf o (g := 1) (slot := 4) (ci := 11) (v := .ref (P.1 6)) rfl jin_X11 (by decide) rfl jf_X11_55 (fun _ => rfl) rfl dX11_offOn_80 ?_
            refine j_getf o (g := 6) (slot := 2) (ci := 9) (v := .ref (P.1 28)) rfl jin_X9 (by decide) rfl jf_X11_348 (fun _ => rfl) rfl dX11_offOn_83 ?_
            refine j_iload o dX11_offOn_86 rfl ?_
            obtain ⟨hb36, h⟩ := h
            refine j_iald o (g := 28) (fun _ => rfl) hb36 dX11_offOn_88 ?_
            refine j_i2l o dX11_offOn_89 ?_
            refine j_lmul o dX11_offOn_90 ?_
            exact j_pick [1, 2, 3, 4, 5, 6, 7, 0] rfl h
          · replace h := h.2 c34
            refine j_lconst o (v := 0) dX11_offOn_64 rfl ?_
            refine j_goto o (tgt := 91) dX11_offOn_65 (by decide) ?_
            exact j_pick [1, 2, 3, 4, 5, 6, 7, 0] rfl h)
      exact j_pick [2, 3, 4, 5, 6, 1, 0] rfl h
    · replace h := h.2 c3
      refine j_aload_n o dX11_offOn_10 rfl ?_
      refine j_getf o (g := 1) (slot := 14) (ci := 11) (v := .ref (P.1 14)) rfl jin_X11 (by decide) rfl jf_X11_109 (fun _ => rfl) rfl dX11_offOn_11 ?_
      refine j_iload o dX11_offOn_14 rfl ?_
      refine j_lconst o (v := 0) dX11_offOn_16 rfl ?_
      obtain ⟨hb37, h⟩ := h
      refine j_last o (g := 14) (fun _ _ _ => rfl) hb37 dX11_offOn_17 ?_
      refine j_iinc o (v := x1 + 1) [(5, .int (x1 + 1)), (0, .ref (P.1 1)), (1, .ref (P.1 a1)), (2, .ref (P.1 a2)), (3, .int a3), (4, .int a4)] dX11_offOn_18 rfl rfl (by decide) rfl ?_
      refine j_goto o (tgt := 3) dX11_offOn_21 (by decide) ?_
      exact j_pick [1, 2, 3, 4, 5, 0] rfl h)
  exact j_pick [1, 2, 3, 4, 5, 0] rfl h

abbrev rm_X11_off : Room := { frames := 2, cells := 0, slots := 0, locals := 57 }
def w_X11_off (P : jP) (a1 : Int32) (a2 : Int32) (a3 : Int32) (M : jM) (N : jN) (Q : Int64 → jN → Prop) : Prop :=
  w_X11_formAt P a1 M (fun r1 =>
  w_X11_lawAt P a2 M (fun r4 =>
  (r1 = 0 → (
   Q (-1) N
  )) ∧ (r1 ≠ 0 → (
   (r4 = 0 → (
    Q (-1) N
   )) ∧ (r4 ≠ 0 → (
    w_X3_isCase P a3 M (fun r9 =>
    (¬ r9 = 0 → (
     w_X11_offOn P r1 r4 a3 (-1) M N (fun r13 N14 =>
     Q r13 N14)
    )) ∧ (r9 = 0 → (
     Q (-1) N
    )))
   ))
  ))))
set_option maxRecDepth 20000 in
theorem c_X11_off (l : Launch) (P : jP) (a1 : Int32) (a2 : Int32) (a3 : Int32) (M : jM) (N : jN) (Q : Int64 → jN → Prop) (h : w_X11_off P a1 a2 a3 M N Q) : jC l yX11_off cX11_off 6 (some .long) rm_X11_off LC [.ref (P.1 1), .int a1, .int a2, .int a3] P M N (jql P (fun r M' N' => M = M' ∧ Q r N')) := by
  refine jC_of (by decide +kernel) [(0, .ref (P.1 1)), (1, .int a1), (2, .int a2), (3, .int a3)] (Nat.le_of_ble_eq_true rfl) rfl (fun X o => ?_)
  obtain ⟨E, hE⟩ : ∃ E, E = jE X rm_X11_off (jql P (fun r M' N' => M = M' ∧ Q r N')) := ⟨_, rfl⟩
  rw [← hE]
  unfold w_X11_off at h
  refine j_aload_n o dX11_off_0 rfl ?_
  refine j_iload_n o dX11_off_1 rfl ?_
  refine j_callVr (g := 1) (ci := 11) o (c_X11_formAt l P a1 M N _ h) dX11_off_2 jc_X11_237 jn_X11_formAt rfl rfl rfl (fun _ => rfl) rfl rfl (fun r1 Mz2 Nz3 h => ?_)
  obtain ⟨rfl, rfl, h⟩ := h
  refine j_qstore o [(4, jrf P r1), (0, .ref (P.1 1)), (1, .int a1), (2, .int a2), (3, .int a3)] dX11_off_5 (by decide) rfl ?_
  refine j_aload_n o dX11_off_7 rfl ?_
  refine j_iload_n o dX11_off_8 rfl ?_
  refine j_callVr (g := 1) (ci := 11) o (c_X11_lawAt l P a2 M N _ h) dX11_off_9 jc_X11_191 jn_X11_lawAt rfl rfl rfl (fun _ => rfl) rfl rfl (fun r4 Mz5 Nz6 h => ?_)
  obtain ⟨rfl, rfl, h⟩ := h
  refine j_qstore o [(5, jrf P r4), (4, jrf P r1), (0, .ref (P.1 1)), (1, .int a1), (2, .int a2), (3, .int a3)] dX11_off_12 (by decide) (by simp [jst1, jst2, jrf_cat]) ?_
  refine j_qload o (g := r1) rfl dX11_off_14 ?_
  refine j_null2 o (tgt := 35) dX11_off_16 (by decide) (fun c7 => ?_) (fun c7 => ?_)
  · replace h := h.1 c7
    refine j_ldc2 o jk_X11_273 dX11_off_35 ?_
    refine j_goto o (tgt := 51) dX11_off_38 (by decide) ?_
    rw [hE]
    exact j_lret o dX11_off_51 ⟨_, rfl, rfl, rfl, h⟩
  · replace h := h.2 c7
    try rw [jrf_n P c7]
    refine j_qload o (g := r4) rfl dX11_off_19 ?_
    refine j_null2 o (tgt := 35) dX11_off_21 (by decide) (fun c8 => ?_) (fun c8 => ?_)
    · replace h := h.1 c8
      refine j_ldc2 o jk_X11_273 dX11_off_35 ?_
      refine j_goto o (tgt := 51) dX11_off_38 (by decide) ?_
      rw [hE]
      exact j_lret o dX11_off_51 ⟨_, rfl, rfl, rfl, h⟩
    · replace h := h.2 c8
      try rw [jrf_n P c8]
      refine j_aload_n o dX11_off_24 rfl ?_
      refine j_getf o (g := 1) (slot := 0) (ci := 11) (v := .ref (P.1 2)) rfl jin_X11 (by decide) rfl jf_X11_23 (fun _ => rfl) rfl dX11_off_25 ?_
      refine j_iload_n o dX11_off_28 rfl ?_
      refine j_callVi (g := 2) (ci := 3) o (c_X3_isCase l P a3 M N _ h) dX11_off_29 jc_X11_195 jn_X3_isCase rfl rfl rfl (fun _ => rfl) rfl rfl (fun r9 Mz10 Nz11 h => ?_)
      obtain ⟨rfl, rfl, h⟩ := h
      refine j_if_ne o (tgt := 41) dX11_off_32 (by decide) (fun c12 => ?_) (fun c12 => ?_)
      · replace h := h.1 c12
        refine j_aload_n o dX11_off_41 rfl ?_
        refine j_aload o dX11_off_42 rfl ?_
        refine j_aload o dX11_off_44 rfl ?_
        refine j_iload_n o dX11_off_46 rfl ?_
        refine j_iconst o (v := (-1)) dX11_off_47 rfl ?_
        refine j_callVl (g := 1) (ci := 11) o (c_X11_offOn l P r1 r4 a3 (-1) M N _ h) dX11_off_48 jc_X11_340 jn_X11_offOn rfl rfl rfl (fun _ => rfl) rfl rfl (fun r13 Mz15 N14 h => ?_)
        obtain ⟨rfl, h⟩ := h
        rw [hE]
        exact j_lret o dX11_off_51 ⟨_, rfl, rfl, rfl, h⟩
      · replace h := h.2 c12
        refine j_ldc2 o jk_X11_273 dX11_off_35 ?_
        refine j_goto o (tgt := 51) dX11_off_38 (by decide) ?_
        rw [hE]
        exact j_lret o dX11_off_51 ⟨_, rfl, rfl, rfl, h⟩

abbrev rm_X11_weak : Room := { frames := 2, cells := 0, slots := 0, locals := 57 }
def w_X11_weak (P : jP) (a1 : Int32) (a2 : Int32) (M : jM) (N : jN) (Q : Int32 → jN → Prop) : Prop :=
  w_X11_formAt P a1 M (fun r1 =>
  w_X11_lawAt P a2 M (fun r4 =>
  (r1 = 0 → (
   Q (-1) N
  )) ∧ (r1 ≠ 0 → (
   (r4 ≠ 0 → (
    ∀ R33 : Int32 → Int64 → Int32 → jN → Prop, (∀ (x9 : Int32) (x10 : Int64) (x11 : Int32) (N12 : jN), (
     ((M 2 0) ≤ x11 → (
      Q x9 N12
     )) ∧ (¬ (M 2 0) ≤ x11 → (
      ∀ R51 : Int64 → Int32 → jN → Prop, (∀ (x14 : Int64) (x15 : Int32) (N16 : jN), (
       ((M 2 2) ≤ x15 → (
        ∀ R107 : Int32 → Int64 → Prop, (∀ (x18 : Int32) (x19 : Int64), (
         R33 x18 x19 (x11 + 1) N16
        ) → R107 x18 x19) →
        ∀ R99 : Prop, ((
         R107 x11 x14
        ) → R99) →
        (x9 = (-1) → (
         R99
        )) ∧ (¬ x9 = (-1) → (
         (0 ≤ (lg_cmp x14 x10) → (
          R107 x9 x10
         )) ∧ (¬ 0 ≤ (lg_cmp x14 x10) → (
          R99
         ))
        ))
       )) ∧ (¬ (M 2 2) ≤ x15 → (
        w_X11_offOn P r1 r4 x15 x11 M N16 (fun r22 N23 =>
        R51 (x14 + r22) (x15 + 1) N23)
       ))
      ) → R51 x14 x15 N16) →
      R51 0 0 N12
     ))
    ) → R33 x9 x10 x11 N12) →
    R33 (-1) 0 0 N
   )) ∧ (r4 = 0 → (
    Q (-1) N
   ))
  ))))
set_option maxRecDepth 20000 in
theorem c_X11_weak (l : Launch) (P : jP) (a1 : Int32) (a2 : Int32) (M : jM) (N : jN) (Q : Int32 → jN → Prop) (h : w_X11_weak P a1 a2 M N Q) : jC l yX11_weak cX11_weak 12 (some .int) rm_X11_weak LC [.ref (P.1 1), .int a1, .int a2] P M N (jqi P (fun r M' N' => M = M' ∧ Q r N')) := by
  refine jC_of (by decide +kernel) [(0, .ref (P.1 1)), (1, .int a1), (2, .int a2)] (Nat.le_of_ble_eq_true rfl) rfl (fun X o => ?_)
  obtain ⟨E, hE⟩ : ∃ E, E = jE X rm_X11_weak (jqi P (fun r M' N' => M = M' ∧ Q r N')) := ⟨_, rfl⟩
  rw [← hE]
  unfold w_X11_weak at h
  refine j_aload_n o dX11_weak_0 rfl ?_
  refine j_iload_n o dX11_weak_1 rfl ?_
  refine j_callVr (g := 1) (ci := 11) o (c_X11_formAt l P a1 M N _ h) dX11_weak_2 jc_X11_237 jn_X11_formAt rfl rfl rfl (fun _ => rfl) rfl rfl (fun r1 Mz2 Nz3 h => ?_)
  obtain ⟨rfl, rfl, h⟩ := h
  refine j_qstore_n o [(3, jrf P r1), (0, .ref (P.1 1)), (1, .int a1), (2, .int a2)] dX11_weak_5 (by decide) rfl ?_
  refine j_aload_n o dX11_weak_6 rfl ?_
  refine j_iload_n o dX11_weak_7 rfl ?_
  refine j_callVr (g := 1) (ci := 11) o (c_X11_lawAt l P a2 M N _ h) dX11_weak_8 jc_X11_191 jn_X11_lawAt rfl rfl rfl (fun _ => rfl) rfl rfl (fun r4 Mz5 Nz6 h => ?_)
  obtain ⟨rfl, rfl, h⟩ := h
  refine j_qstore o [(4, jrf P r4), (3, jrf P r1), (0, .ref (P.1 1)), (1, .int a1), (2, .int a2)] dX11_weak_11 (by decide) (by simp [jst1, jst2, jrf_cat]) ?_
  refine j_qload_n o (g := r1) rfl dX11_weak_13 ?_
  refine j_null2 o (tgt := 22) dX11_weak_14 (by decide) (fun c7 => ?_) (fun c7 => ?_)
  · replace h := h.1 c7
    refine j_iconst o (v := (-1)) dX11_weak_22 rfl ?_
    rw [hE]
    exact j_iret o dX11_weak_23 ⟨_, rfl, rfl, rfl, h⟩
  · replace h := h.2 c7
    try rw [jrf_n P c7]
    refine j_qload o (g := r4) rfl dX11_weak_17 ?_
    refine j_nonnull2 o (tgt := 24) dX11_weak_19 (by decide) (fun c8 => ?_) (fun c8 => ?_)
    · replace h := h.1 c8
      try rw [jrf_n P c8]
      refine j_iconst o (v := (-1)) dX11_weak_24 rfl ?_
      refine j_istore o [(5, .int (-1)), (4, .ref (P.1 r4)), (3, .ref (P.1 r1)), (0, .ref (P.1 1)), (1, .int a1), (2, .int a2)] dX11_weak_25 (by decide) rfl ?_
      refine j_lconst o (v := 0) dX11_weak_27 rfl ?_
      refine j_lstore o [(6, .long 0), (5, .int (-1)), (4, .ref (P.1 r4)), (3, .ref (P.1 r1)), (0, .ref (P.1 1)), (1, .int a1), (2, .int a2)] dX11_weak_28 (by decide) rfl ?_
      refine j_iconst o (v := 0) dX11_weak_30 rfl ?_
      refine j_istore o [(8, .int 0), (6, .long 0), (5, .int (-1)), (4, .ref (P.1 r4)), (3, .ref (P.1 r1)), (0, .ref (P.1 1)), (1, .int a1), (2, .int a2)] dX11_weak_31 (by decide) rfl ?_
      replace h := h (fun (x9 : Int32) (x10 : Int64) (x11 : Int32) (N12 : jN) => J X P M N12 0 0 E 12 33 [(0, .ref (P.1 1)), (3, .ref (P.1 r1)), (4, .ref (P.1 r4)), (5, .int x9), (6, .long x10), (8, .int x11)] []) (by
        intro x9 x10 x11 N12 h
        refine j_iload o dX11_weak_33 rfl ?_
        refine j_aload_n o dX11_weak_35 rfl ?_
        refine j_getf o (g := 1) (slot := 0) (ci := 11) (v := .ref (P.1 2)) rfl jin_X11 (by decide) rfl jf_X11_23 (fun _ => rfl) rfl dX11_weak_36 ?_
        refine j_getf o (g := 2) (slot := 0) (ci := 3) (v := .int (M 2 0)) rfl jin_X3 (by decide) rfl jf_X11_224 (fun _ => rfl) rfl dX11_weak_39 ?_
        refine j_icmp_ge o (tgt := 113) dX11_weak_42 (by decide) (fun c13 => ?_) (fun c13 => ?_)
        · replace h := h.1 c13
          refine j_iload o dX11_weak_113 rfl ?_
          rw [hE]
          exact j_iret o dX11_weak_115 ⟨_, rfl, rfl, rfl, h⟩
        · replace h := h.2 c13
          refine j_lconst o (v := 0) dX11_weak_45 rfl ?_
          refine j_lstore o [(9, .long 0), (0, .ref (P.1 1)), (3, .ref (P.1 r1)), (4, .ref (P.1 r4)), (5, .int x9), (6, .long x10), (8, .int x11)] dX11_weak_46 (by decide) rfl ?_
          refine j_iconst o (v := 0) dX11_weak_48 rfl ?_
          refine j_istore o [(11, .int 0), (9, .long 0), (0, .ref (P.1 1)), (3, .ref (P.1 r1)), (4, .ref (P.1 r4)), (5, .int x9), (6, .long x10), (8, .int x11)] dX11_weak_49 (by decide) rfl ?_
          replace h := h (fun (x14 : Int64) (x15 : Int32) (N16 : jN) => J X P M N16 0 0 E 12 51 [(0, .ref (P.1 1)), (3, .ref (P.1 r1)), (4, .ref (P.1 r4)), (5, .int x9), (6, .long x10), (8, .int x11), (9, .long x14), (11, .int x15)] []) (by
            intro x14 x15 N16 h
            refine j_iload o dX11_weak_51 rfl ?_
            refine j_aload_n o dX11_weak_53 rfl ?_
            refine j_getf o (g := 1) (slot := 0) (ci := 11) (v := .ref (P.1 2)) rfl jin_X11 (by decide) rfl jf_X11_23 (fun _ => rfl) rfl dX11_weak_54 ?_
            refine j_getf o (g := 2) (slot := 2) (ci := 3) (v := .int (M 2 2)) rfl jin_X3 (by decide) rfl jf_X11_77 (fun _ => rfl) rfl dX11_weak_57 ?_
            refine j_icmp_ge o (tgt := 85) dX11_weak_60 (by decide) (fun c17 => ?_) (fun c17 => ?_)
            · replace h := h.1 c17
              refine j_iload o dX11_weak_85 rfl ?_
              refine j_iconst o (v := (-1)) dX11_weak_87 rfl ?_
              replace h := h (fun (x18 : Int32) (x19 : Int64) => J X P M N16 0 0 E 12 107 [(0, .ref (P.1 1)), (3, .ref (P.1 r1)), (4, .ref (P.1 r4)), (5, .int x18), (6, .long x19), (8, .int x11)] []) (by
                intro x18 x19 h
                refine j_iinc o (v := x11 + 1) [(8, .int (x11 + 1)), (0, .ref (P.1 1)), (3, .ref (P.1 r1)), (4, .ref (P.1 r4)), (5, .int x18), (6, .long x19)] dX11_weak_107 rfl rfl (by decide) rfl ?_
                refine j_goto o (tgt := 33) dX11_weak_110 (by decide) ?_
                exact j_pick [1, 2, 3, 4, 5, 0] rfl h)
              replace h := h (J X P M N16 0 0 E 12 99 [(0, .ref (P.1 1)), (3, .ref (P.1 r1)), (4, .ref (P.1 r4)), (8, .int x11), (9, .long x14)] []) (by
                intro h
                refine j_iload o dX11_weak_99 rfl ?_
                refine j_istore o [(5, .int x11), (0, .ref (P.1 1)), (3, .ref (P.1 r1)), (4, .ref (P.1 r4)), (8, .int x11), (9, .long x14)] dX11_weak_101 (by decide) rfl ?_
                refine j_lload o dX11_weak_103 rfl ?_
                refine j_lstore o [(6, .long x14), (5, .int x11), (0, .ref (P.1 1)), (3, .ref (P.1 r1)), (4, .ref (P.1 r4)), (8, .int x11), (9, .long x14)] dX11_weak_105 (by decide) rfl ?_
                exact j_pick [2, 3, 4, 1, 0, 5] rfl h)
              refine j_icmp_eq o (tgt := 99) dX11_weak_88 (by decide) (fun c20 => ?_) (fun c20 => ?_)
              · replace h := h.1 c20
                exact j_pick [0, 1, 2, 5, 6] rfl h
              · replace h := h.2 c20
                refine j_lload o dX11_weak_91 rfl ?_
                refine j_lload o dX11_weak_93 rfl ?_
                refine j_lcmp o dX11_weak_95 ?_
                refine j_if_ge o (tgt := 107) dX11_weak_96 (by decide) (fun c21 => ?_) (fun c21 => ?_)
                · replace h := h.1 c21
                  exact j_pick [0, 1, 2, 3, 4, 5] rfl h
                · replace h := h.2 c21
                  exact j_pick [0, 1, 2, 5, 6] rfl h
            · replace h := h.2 c17
              refine j_lload o dX11_weak_63 rfl ?_
              refine j_aload_n o dX11_weak_65 rfl ?_
              refine j_aload_n o dX11_weak_66 rfl ?_
              refine j_aload o dX11_weak_67 rfl ?_
              refine j_iload o dX11_weak_69 rfl ?_
              refine j_iload o dX11_weak_71 rfl ?_
              refine j_callVl (g := 1) (ci := 11) o (c_X11_offOn l P r1 r4 x15 x11 M N16 _ h) dX11_weak_73 jc_X11_340 jn_X11_offOn rfl rfl rfl (fun _ => rfl) rfl rfl (fun r22 Mz24 N23 h => ?_)
              obtain ⟨rfl, h⟩ := h
              refine j_ladd o dX11_weak_76 ?_
              refine j_lstore o [(9, .long (x14 + r22)), (0, .ref (P.1 1)), (3, .ref (P.1 r1)), (4, .ref (P.1 r4)), (5, .int x9), (6, .long x10), (8, .int x11), (11, .int x15)] dX11_weak_77 (by decide) rfl ?_
              refine j_iinc o (v := x15 + 1) [(11, .int (x15 + 1)), (9, .long (x14 + r22)), (0, .ref (P.1 1)), (3, .ref (P.1 r1)), (4, .ref (P.1 r4)), (5, .int x9), (6, .long x10), (8, .int x11)] dX11_weak_79 rfl rfl (by decide) rfl ?_
              refine j_goto o (tgt := 51) dX11_weak_82 (by decide) ?_
              exact j_pick [2, 3, 4, 5, 6, 7, 1, 0] rfl h)
          exact j_pick [2, 3, 4, 5, 6, 7, 1, 0] rfl h)
      exact j_pick [5, 4, 3, 2, 1, 0] rfl h
    · replace h := h.2 c8
      refine j_iconst o (v := (-1)) dX11_weak_22 rfl ?_
      rw [hE]
      exact j_iret o dX11_weak_23 ⟨_, rfl, rfl, rfl, h⟩

abbrev rm_X11_mend : Room := { frames := 1, cells := 0, slots := 0, locals := 21 }
def w_X11_mend (P : jP) (a1 : Int32) (a2 : Int32) (M : jM) (Q : Int32 → Prop) : Prop :=
  w_X11_lawAt P a1 M (fun r1 =>
  w_X11_lawAt P a2 M (fun r4 =>
  (r1 = 0 → (
   Q (-1)
  )) ∧ (r1 ≠ 0 → (
   (r4 ≠ 0 → (
    ∀ R30 : Int32 → Int32 → Prop, (∀ (x9 : Int32) (x10 : Int32), (
     ((M 2 2) ≤ x10 → (
      ∀ R72 : Int32 → Int32 → Prop, (∀ (x12 : Int32) (x13 : Int32), (
       cLw P r4 = true ∧
       ((M r4 0) ≤ x13 → (
        cLw P r4 = true ∧
        Q (x12 &&& (((1 : Int32) <<< ((M r4 0) &&& 31)) - 1))
       )) ∧ (¬ (M r4 0) ≤ x13 → (
        cLw P r1 = true ∧
        ∀ R118 : Int32 → Prop, (∀ (x18 : Int32), (
         R72 x18 (x13 + 1)
        ) → R118 x18) →
        ∀ R109 : Prop, ((
         R118 (x12 ||| ((1 : Int32) <<< (x13 &&& 31)))
        ) → R109) →
        ((M r1 0) ≤ x13 → (
         R109
        )) ∧ (¬ (M r1 0) ≤ x13 → (
         cLw P r1 = true ∧
         jin P (r1 + 1) x13 ∧
         cLw P r4 = true ∧
         jin P (r4 + 1) x13 ∧
         ((M (r1 + 1) x13.toNatClampNeg) = (M (r4 + 1) x13.toNatClampNeg) → (
          R118 x12
         )) ∧ (¬ (M (r1 + 1) x13.toNatClampNeg) = (M (r4 + 1) x13.toNatClampNeg) → (
          R109
         ))
        ))
       ))
      ) → R72 x12 x13) →
      R72 x9 0
     )) ∧ (¬ (M 2 2) ≤ x10 → (
      cLw P r1 = true ∧
      jin P (r1 + 2) x10 ∧
      cLw P r4 = true ∧
      jin P (r4 + 2) x10 ∧
      ∀ y29 : Int32, y29 = x9 ||| ((M (r1 + 2) x10.toNatClampNeg) ^^^ (M (r4 + 2) x10.toNatClampNeg)) →
      R30 y29 (x10 + 1)
     ))
    ) → R30 x9 x10) →
    R30 0 0
   )) ∧ (r4 = 0 → (
    Q (-1)
   ))
  ))))
set_option maxRecDepth 20000 in
theorem c_X11_mend (l : Launch) (P : jP) (a1 : Int32) (a2 : Int32) (M : jM) (N : jN) (Q : Int32 → Prop) (h : w_X11_mend P a1 a2 M Q) : jC l yX11_mend cX11_mend 7 (some .int) rm_X11_mend LC [.ref (P.1 1), .int a1, .int a2] P M N (jqi P (fun r M' N' => M = M' ∧ N = N' ∧ Q r )) := by
  refine jC_of (by decide +kernel) [(0, .ref (P.1 1)), (1, .int a1), (2, .int a2)] (Nat.le_of_ble_eq_true rfl) rfl (fun X o => ?_)
  obtain ⟨E, hE⟩ : ∃ E, E = jE X rm_X11_mend (jqi P (fun r M' N' => M = M' ∧ N = N' ∧ Q r )) := ⟨_, rfl⟩
  rw [← hE]
  unfold w_X11_mend at h
  refine j_aload_n o dX11_mend_0 rfl ?_
  refine j_iload_n o dX11_mend_1 rfl ?_
  refine j_callVr (g := 1) (ci := 11) o (c_X11_lawAt l P a1 M N _ h) dX11_mend_2 jc_X11_191 jn_X11_lawAt rfl rfl rfl (fun _ => rfl) rfl rfl (fun r1 Mz2 Nz3 h => ?_)
  obtain ⟨rfl, rfl, h⟩ := h
  refine j_qstore_n o [(3, jrf P r1), (0, .ref (P.1 1)), (1, .int a1), (2, .int a2)] dX11_mend_5 (by decide) rfl ?_
  refine j_aload_n o dX11_mend_6 rfl ?_
  refine j_iload_n o dX11_mend_7 rfl ?_
  refine j_callVr (g := 1) (ci := 11) o (c_X11_lawAt l P a2 M N _ h) dX11_mend_8 jc_X11_191 jn_X11_lawAt rfl rfl rfl (fun _ => rfl) rfl rfl (fun r4 Mz5 Nz6 h => ?_)
  obtain ⟨rfl, rfl, h⟩ := h
  refine j_qstore o [(4, jrf P r4), (3, jrf P r1), (0, .ref (P.1 1)), (1, .int a1), (2, .int a2)] dX11_mend_11 (by decide) (by simp [jst1, jst2, jrf_cat]) ?_
  refine j_qload_n o (g := r1) rfl dX11_mend_13 ?_
  refine j_null2 o (tgt := 22) dX11_mend_14 (by decide) (fun c7 => ?_) (fun c7 => ?_)
  · replace h := h.1 c7
    refine j_iconst o (v := (-1)) dX11_mend_22 rfl ?_
    rw [hE]
    exact j_iret o dX11_mend_23 ⟨_, rfl, rfl, rfl, rfl, h⟩
  · replace h := h.2 c7
    try rw [jrf_n P c7]
    refine j_qload o (g := r4) rfl dX11_mend_17 ?_
    refine j_nonnull2 o (tgt := 24) dX11_mend_19 (by decide) (fun c8 => ?_) (fun c8 => ?_)
    · replace h := h.1 c8
      try rw [jrf_n P c8]
      refine j_iconst o (v := 0) dX11_mend_24 rfl ?_
      refine j_istore o [(5, .int 0), (4, .ref (P.1 r4)), (3, .ref (P.1 r1)), (0, .ref (P.1 1)), (1, .int a1), (2, .int a2)] dX11_mend_25 (by decide) rfl ?_
      refine j_iconst o (v := 0) dX11_mend_27 rfl ?_
      refine j_istore o [(6, .int 0), (5, .int 0), (4, .ref (P.1 r4)), (3, .ref (P.1 r1)), (0, .ref (P.1 1)), (1, .int a1), (2, .int a2)] dX11_mend_28 (by decide) rfl ?_
      replace h := h (fun (x9 : Int32) (x10 : Int32) => J X P M N 0 0 E 7 30 [(0, .ref (P.1 1)), (3, .ref (P.1 r1)), (4, .ref (P.1 r4)), (5, .int x9), (6, .int x10)] []) (by
        intro x9 x10 h
        refine j_iload o dX11_mend_30 rfl ?_
        refine j_aload_n o dX11_mend_32 rfl ?_
        refine j_getf o (g := 1) (slot := 0) (ci := 11) (v := .ref (P.1 2)) rfl jin_X11 (by decide) rfl jf_X11_23 (fun _ => rfl) rfl dX11_mend_33 ?_
        refine j_getf o (g := 2) (slot := 2) (ci := 3) (v := .int (M 2 2)) rfl jin_X3 (by decide) rfl jf_X11_77 (fun _ => rfl) rfl dX11_mend_36 ?_
        refine j_icmp_ge o (tgt := 69) dX11_mend_39 (by decide) (fun c11 => ?_) (fun c11 => ?_)
        · replace h := h.1 c11
          refine j_iconst o (v := 0) dX11_mend_69 rfl ?_
          refine j_istore o [(6, .int 0), (0, .ref (P.1 1)), (3, .ref (P.1 r1)), (4, .ref (P.1 r4)), (5, .int x9)] dX11_mend_70 (by decide) rfl ?_
          replace h := h (fun (x12 : Int32) (x13 : Int32) => J X P M N 0 0 E 7 72 [(3, .ref (P.1 r1)), (4, .ref (P.1 r4)), (5, .int x12), (6, .int x13)] []) (by
            intro x12 x13 h
            refine j_iload o dX11_mend_72 rfl ?_
            refine j_aload o dX11_mend_74 rfl ?_
            obtain ⟨hb14, h⟩ := h
            refine j_getf o (g := r4) (slot := 0) (ci := 4) (v := .int (M r4 0)) rfl jin_X4 (by decide) rfl jf_X11_361 (fun tA => LC_lw hb14 tA _ _) rfl dX11_mend_76 ?_
            refine j_icmp_ge o (tgt := 124) dX11_mend_79 (by decide) (fun c15 => ?_) (fun c15 => ?_)
            · replace h := h.1 c15
              refine j_iload o dX11_mend_124 rfl ?_
              refine j_iconst o (v := 1) dX11_mend_126 rfl ?_
              refine j_aload o dX11_mend_127 rfl ?_
              obtain ⟨hb16, h⟩ := h
              refine j_getf o (g := r4) (slot := 0) (ci := 4) (v := .int (M r4 0)) rfl jin_X4 (by decide) rfl jf_X11_361 (fun tA => LC_lw hb16 tA _ _) rfl dX11_mend_129 ?_
              refine j_ishl o dX11_mend_132 ?_
              refine j_iconst o (v := 1) dX11_mend_133 rfl ?_
              refine j_isub o dX11_mend_134 ?_
              refine j_iand o dX11_mend_135 ?_
              rw [hE]
              exact j_iret o dX11_mend_136 ⟨_, rfl, rfl, rfl, rfl, h⟩
            · replace h := h.2 c15
              refine j_iload o dX11_mend_82 rfl ?_
              refine j_aload_n o dX11_mend_84 rfl ?_
              obtain ⟨hb17, h⟩ := h
              refine j_getf o (g := r1) (slot := 0) (ci := 4) (v := .int (M r1 0)) rfl jin_X4 (by decide) rfl jf_X11_361 (fun tA => LC_lw hb17 tA _ _) rfl dX11_mend_85 ?_
              replace h := h (fun (x18 : Int32) => J X P M N 0 0 E 7 118 [(3, .ref (P.1 r1)), (4, .ref (P.1 r4)), (5, .int x18), (6, .int x13)] []) (by
                intro x18 h
                refine j_iinc o (v := x13 + 1) [(6, .int (x13 + 1)), (3, .ref (P.1 r1)), (4, .ref (P.1 r4)), (5, .int x18)] dX11_mend_118 rfl rfl (by decide) rfl ?_
                refine j_goto o (tgt := 72) dX11_mend_121 (by decide) ?_
                exact j_pick [1, 2, 3, 0] rfl h)
              replace h := h (J X P M N 0 0 E 7 109 [(3, .ref (P.1 r1)), (4, .ref (P.1 r4)), (5, .int x12), (6, .int x13)] []) (by
                intro h
                refine j_iload o dX11_mend_109 rfl ?_
                refine j_iconst o (v := 1) dX11_mend_111 rfl ?_
                refine j_iload o dX11_mend_112 rfl ?_
                refine j_ishl o dX11_mend_114 ?_
                refine j_ior o dX11_mend_115 ?_
                refine j_istore o [(5, .int (x12 ||| ((1 : Int32) <<< (x13 &&& 31)))), (3, .ref (P.1 r1)), (4, .ref (P.1 r4)), (6, .int x13)] dX11_mend_116 (by decide) rfl ?_
                exact j_pick [1, 2, 0, 3] rfl h)
              refine j_icmp_ge o (tgt := 109) dX11_mend_88 (by decide) (fun c19 => ?_) (fun c19 => ?_)
              · replace h := h.1 c19
                exact j_pick [0, 1, 2, 3] rfl h
              · replace h := h.2 c19
                refine j_aload_n o dX11_mend_91 rfl ?_
                obtain ⟨hb20, h⟩ := h
                refine j_getf o (g := r1) (slot := 1) (ci := 4) (v := .ref (P.1 (r1 + 1))) rfl jin_X4 (by decide) rfl jf_X11_151 (fun tA => LC_lw hb20 tA _ _) rfl dX11_mend_92 ?_
                refine j_iload o dX11_mend_95 rfl ?_
                obtain ⟨hb21, h⟩ := h
                obtain ⟨nnhb21, hchb21, hihb21⟩ := hb21
                refine j_iald o (g := r1 + 1) (fun tA => LC_ia hchb21 tA _ _) hihb21 dX11_mend_97 ?_
                refine j_aload o dX11_mend_98 rfl ?_
                obtain ⟨hb22, h⟩ := h
                refine j_getf o (g := r4) (slot := 1) (ci := 4) (v := .ref (P.1 (r4 + 1))) rfl jin_X4 (by decide) rfl jf_X11_151 (fun tA => LC_lw hb22 tA _ _) rfl dX11_mend_100 ?_
                refine j_iload o dX11_mend_103 rfl ?_
                obtain ⟨hb23, h⟩ := h
                obtain ⟨nnhb23, hchb23, hihb23⟩ := hb23
                refine j_iald o (g := r4 + 1) (fun tA => LC_ia hchb23 tA _ _) hihb23 dX11_mend_105 ?_
                refine j_icmp_eq o (tgt := 118) dX11_mend_106 (by decide) (fun c24 => ?_) (fun c24 => ?_)
                · replace h := h.1 c24
                  exact j_pick [0, 1, 2, 3] rfl h
                · replace h := h.2 c24
                  exact j_pick [0, 1, 2, 3] rfl h)
          exact j_pick [2, 3, 4, 0] rfl h
        · replace h := h.2 c11
          refine j_iload o dX11_mend_42 rfl ?_
          refine j_aload_n o dX11_mend_44 rfl ?_
          obtain ⟨hb25, h⟩ := h
          refine j_getf o (g := r1) (slot := 2) (ci := 4) (v := .ref (P.1 (r1 + 2))) rfl jin_X4 (by decide) rfl jf_X11_158 (fun tA => LC_lw hb25 tA _ _) rfl dX11_mend_45 ?_
          refine j_iload o dX11_mend_48 rfl ?_
          obtain ⟨hb26, h⟩ := h
          obtain ⟨nnhb26, hchb26, hihb26⟩ := hb26
          refine j_iald o (g := r1 + 2) (fun tA => LC_ia hchb26 tA _ _) hihb26 dX11_mend_50 ?_
          refine j_aload o dX11_mend_51 rfl ?_
          obtain ⟨hb27, h⟩ := h
          refine j_getf o (g := r4) (slot := 2) (ci := 4) (v := .ref (P.1 (r4 + 2))) rfl jin_X4 (by decide) rfl jf_X11_158 (fun tA => LC_lw hb27 tA _ _) rfl dX11_mend_53 ?_
          refine j_iload o dX11_mend_56 rfl ?_
          obtain ⟨hb28, h⟩ := h
          obtain ⟨nnhb28, hchb28, hihb28⟩ := hb28
          refine j_iald o (g := r4 + 2) (fun tA => LC_ia hchb28 tA _ _) hihb28 dX11_mend_58 ?_
          refine j_ixor o dX11_mend_59 ?_
          refine j_ior o dX11_mend_60 ?_
          refine j_topi (fun y29 hy29 => ?_)
          replace h := h y29 hy29
          refine j_istore o [(5, .int y29), (0, .ref (P.1 1)), (3, .ref (P.1 r1)), (4, .ref (P.1 r4)), (6, .int x10)] dX11_mend_61 (by decide) rfl ?_
          refine j_iinc o (v := x10 + 1) [(6, .int (x10 + 1)), (5, .int y29), (0, .ref (P.1 1)), (3, .ref (P.1 r1)), (4, .ref (P.1 r4))] dX11_mend_63 rfl rfl (by decide) rfl ?_
          refine j_goto o (tgt := 30) dX11_mend_66 (by decide) ?_
          exact j_pick [2, 3, 4, 1, 0] rfl h)
      exact j_pick [4, 3, 2, 1, 0] rfl h
    · replace h := h.2 c8
      refine j_iconst o (v := (-1)) dX11_mend_22 rfl ?_
      rw [hE]
      exact j_iret o dX11_mend_23 ⟨_, rfl, rfl, rfl, rfl, h⟩

abbrev rm_X11_swap : Room := { frames := 1, cells := 0, slots := 0, locals := 21 }
def w_X11_swap (P : jP) (a1 : Int32) (a2 : Int32) (M : jM) (Q : Int32 → Prop) : Prop :=
  w_X11_lawAt P a1 M (fun r1 =>
  (r1 = 0 → (
   Q (-1)
  )) ∧ (r1 ≠ 0 → (
   (a2 < 0 → (
    Q (-1)
   )) ∧ (¬ a2 < 0 → (
    cLw P r1 = true ∧
    (a2 < ((M r1 0) - 1) → (
     cLw P r1 = true ∧
     jin P (r1 + 1) a2 ∧
     cLw P r1 = true ∧
     jin P (r1 + 1) (a2 + 1) ∧
     (¬ (M (r1 + 1) a2.toNatClampNeg) = (M (r1 + 1) (a2 + 1).toNatClampNeg) → (
      ∀ R48 : Int32 → Prop, (∀ (x13 : Int32), (
       ((M 2 2) ≤ x13 → (
        Q 1
       )) ∧ (¬ (M 2 2) ≤ x13 → (
        cLw P r1 = true ∧
        jin P (r1 + 2) x13 ∧
        (¬ ((M (r1 + 2) x13.toNatClampNeg) &&& (((4 : Int32) <<< (a2 &&& 31)) - 1)) = ((3 : Int32) <<< (a2 &&& 31)) → (
         R48 (x13 + 1)
        )) ∧ (((M (r1 + 2) x13.toNatClampNeg) &&& (((4 : Int32) <<< (a2 &&& 31)) - 1)) = ((3 : Int32) <<< (a2 &&& 31)) → (
         Q 0
        ))
       ))
      ) → R48 x13) →
      R48 0
     )) ∧ ((M (r1 + 1) a2.toNatClampNeg) = (M (r1 + 1) (a2 + 1).toNatClampNeg) → (
      Q 1
     ))
    )) ∧ (¬ a2 < ((M r1 0) - 1) → (
     Q (-1)
    ))
   ))
  )))
set_option maxRecDepth 20000 in
theorem c_X11_swap (l : Launch) (P : jP) (a1 : Int32) (a2 : Int32) (M : jM) (N : jN) (Q : Int32 → Prop) (h : w_X11_swap P a1 a2 M Q) : jC l yX11_swap cX11_swap 5 (some .int) rm_X11_swap LC [.ref (P.1 1), .int a1, .int a2] P M N (jqi P (fun r M' N' => M = M' ∧ N = N' ∧ Q r )) := by
  refine jC_of (by decide +kernel) [(0, .ref (P.1 1)), (1, .int a1), (2, .int a2)] (Nat.le_of_ble_eq_true rfl) rfl (fun X o => ?_)
  obtain ⟨E, hE⟩ : ∃ E, E = jE X rm_X11_swap (jqi P (fun r M' N' => M = M' ∧ N = N' ∧ Q r )) := ⟨_, rfl⟩
  rw [← hE]
  unfold w_X11_swap at h
  refine j_aload_n o dX11_swap_0 rfl ?_
  refine j_iload_n o dX11_swap_1 rfl ?_
  refine j_callVr (g := 1) (ci := 11) o (c_X11_lawAt l P a1 M N _ h) dX11_swap_2 jc_X11_191 jn_X11_lawAt rfl rfl rfl (fun _ => rfl) rfl rfl (fun r1 Mz2 Nz3 h => ?_)
  obtain ⟨rfl, rfl, h⟩ := h
  refine j_qstore_n o [(3, jrf P r1), (0, .ref (P.1 1)), (1, .int a1), (2, .int a2)] dX11_swap_5 (by decide) rfl ?_
  refine j_qload_n o (g := r1) rfl dX11_swap_6 ?_
  refine j_null2 o (tgt := 24) dX11_swap_7 (by decide) (fun c4 => ?_) (fun c4 => ?_)
  · replace h := h.1 c4
    refine j_iconst o (v := (-1)) dX11_swap_24 rfl ?_
    rw [hE]
    exact j_iret o dX11_swap_25 ⟨_, rfl, rfl, rfl, rfl, h⟩
  · replace h := h.2 c4
    try rw [jrf_n P c4]
    refine j_iload_n o dX11_swap_10 rfl ?_
    refine j_if_lt o (tgt := 24) dX11_swap_11 (by decide) (fun c5 => ?_) (fun c5 => ?_)
    · replace h := h.1 c5
      refine j_iconst o (v := (-1)) dX11_swap_24 rfl ?_
      rw [hE]
      exact j_iret o dX11_swap_25 ⟨_, rfl, rfl, rfl, rfl, h⟩
    · replace h := h.2 c5
      refine j_iload_n o dX11_swap_14 rfl ?_
      refine j_aload_n o dX11_swap_15 rfl ?_
      obtain ⟨hb6, h⟩ := h
      refine j_getf o (g := r1) (slot := 0) (ci := 4) (v := .int (M r1 0)) rfl jin_X4 (by decide) rfl jf_X11_361 (fun tA => LC_lw hb6 tA _ _) rfl dX11_swap_16 ?_
      refine j_iconst o (v := 1) dX11_swap_19 rfl ?_
      refine j_isub o dX11_swap_20 ?_
      refine j_icmp_lt o (tgt := 26) dX11_swap_21 (by decide) (fun c7 => ?_) (fun c7 => ?_)
      · replace h := h.1 c7
        refine j_aload_n o dX11_swap_26 rfl ?_
        obtain ⟨hb8, h⟩ := h
        refine j_getf o (g := r1) (slot := 1) (ci := 4) (v := .ref (P.1 (r1 + 1))) rfl jin_X4 (by decide) rfl jf_X11_151 (fun tA => LC_lw hb8 tA _ _) rfl dX11_swap_27 ?_
        refine j_iload_n o dX11_swap_30 rfl ?_
        obtain ⟨hb9, h⟩ := h
        obtain ⟨nnhb9, hchb9, hihb9⟩ := hb9
        refine j_iald o (g := r1 + 1) (fun tA => LC_ia hchb9 tA _ _) hihb9 dX11_swap_31 ?_
        refine j_aload_n o dX11_swap_32 rfl ?_
        obtain ⟨hb10, h⟩ := h
        refine j_getf o (g := r1) (slot := 1) (ci := 4) (v := .ref (P.1 (r1 + 1))) rfl jin_X4 (by decide) rfl jf_X11_151 (fun tA => LC_lw hb10 tA _ _) rfl dX11_swap_33 ?_
        refine j_iload_n o dX11_swap_36 rfl ?_
        refine j_iconst o (v := 1) dX11_swap_37 rfl ?_
        refine j_iadd o dX11_swap_38 ?_
        obtain ⟨hb11, h⟩ := h
        obtain ⟨nnhb11, hchb11, hihb11⟩ := hb11
        refine j_iald o (g := r1 + 1) (fun tA => LC_ia hchb11 tA _ _) hihb11 dX11_swap_39 ?_
        refine j_icmp_ne o (tgt := 45) dX11_swap_40 (by decide) (fun c12 => ?_) (fun c12 => ?_)
        · replace h := h.1 c12
          refine j_iconst o (v := 0) dX11_swap_45 rfl ?_
          refine j_istore o [(4, .int 0), (3, .ref (P.1 r1)), (0, .ref (P.1 1)), (1, .int a1), (2, .int a2)] dX11_swap_46 (by decide) rfl ?_
          replace h := h (fun (x13 : Int32) => J X P M N 0 0 E 5 48 [(0, .ref (P.1 1)), (2, .int a2), (3, .ref (P.1 r1)), (4, .int x13)] []) (by
            intro x13 h
            refine j_iload o dX11_swap_48 rfl ?_
            refine j_aload_n o dX11_swap_50 rfl ?_
            refine j_getf o (g := 1) (slot := 0) (ci := 11) (v := .ref (P.1 2)) rfl jin_X11 (by decide) rfl jf_X11_23 (fun _ => rfl) rfl dX11_swap_51 ?_
            refine j_getf o (g := 2) (slot := 2) (ci := 3) (v := .int (M 2 2)) rfl jin_X3 (by decide) rfl jf_X11_77 (fun _ => rfl) rfl dX11_swap_54 ?_
            refine j_icmp_ge o (tgt := 87) dX11_swap_57 (by decide) (fun c14 => ?_) (fun c14 => ?_)
            · replace h := h.1 c14
              refine j_iconst o (v := 1) dX11_swap_87 rfl ?_
              rw [hE]
              exact j_iret o dX11_swap_88 ⟨_, rfl, rfl, rfl, rfl, h⟩
            · replace h := h.2 c14
              refine j_aload_n o dX11_swap_60 rfl ?_
              obtain ⟨hb15, h⟩ := h
              refine j_getf o (g := r1) (slot := 2) (ci := 4) (v := .ref (P.1 (r1 + 2))) rfl jin_X4 (by decide) rfl jf_X11_158 (fun tA => LC_lw hb15 tA _ _) rfl dX11_swap_61 ?_
              refine j_iload o dX11_swap_64 rfl ?_
              obtain ⟨hb16, h⟩ := h
              obtain ⟨nnhb16, hchb16, hihb16⟩ := hb16
              refine j_iald o (g := r1 + 2) (fun tA => LC_ia hchb16 tA _ _) hihb16 dX11_swap_66 ?_
              refine j_iconst o (v := 4) dX11_swap_67 rfl ?_
              refine j_iload_n o dX11_swap_68 rfl ?_
              refine j_ishl o dX11_swap_69 ?_
              refine j_iconst o (v := 1) dX11_swap_70 rfl ?_
              refine j_isub o dX11_swap_71 ?_
              refine j_iand o dX11_swap_72 ?_
              refine j_iconst o (v := 3) dX11_swap_73 rfl ?_
              refine j_iload_n o dX11_swap_74 rfl ?_
              refine j_ishl o dX11_swap_75 ?_
              refine j_icmp_ne o (tgt := 81) dX11_swap_76 (by decide) (fun c17 => ?_) (fun c17 => ?_)
              · replace h := h.1 c17
                refine j_iinc o (v := x13 + 1) [(4, .int (x13 + 1)), (0, .ref (P.1 1)), (2, .int a2), (3, .ref (P.1 r1))] dX11_swap_81 rfl rfl (by decide) rfl ?_
                refine j_goto o (tgt := 48) dX11_swap_84 (by decide) ?_
                exact j_pick [1, 2, 3, 0] rfl h
              · replace h := h.2 c17
                refine j_iconst o (v := 0) dX11_swap_79 rfl ?_
                rw [hE]
                exact j_iret o dX11_swap_80 ⟨_, rfl, rfl, rfl, rfl, h⟩)
          exact j_pick [2, 4, 1, 0] rfl h
        · replace h := h.2 c12
          refine j_iconst o (v := 1) dX11_swap_43 rfl ?_
          rw [hE]
          exact j_iret o dX11_swap_44 ⟨_, rfl, rfl, rfl, rfl, h⟩
      · replace h := h.2 c7
        refine j_iconst o (v := (-1)) dX11_swap_24 rfl ?_
        rw [hE]
        exact j_iret o dX11_swap_25 ⟨_, rfl, rfl, rfl, rfl, h⟩
