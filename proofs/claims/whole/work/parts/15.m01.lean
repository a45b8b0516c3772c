abbrev rm_X3_isFact : Room := { frames := 0, cells := 0, slots := 0, locals := 0 }
def w_X3_isFact (P : jP) (a1 : Int32) (M : jM) (Q : Int32 → Prop) : Prop :=
  (a1 < 0 → (
   Q 0
  )) ∧ (¬ a1 < 0 → (
   ((M 2 0) ≤ a1 → (
    Q 0
   )) ∧ (¬ (M 2 0) ≤ a1 → (
    Q 1
   ))
  ))
set_option maxRecDepth 20000 in
theorem c_X3_isFact (l : Launch) (P : jP) (a1 : Int32) (M : jM) (N : jN) (Q : Int32 → Prop) (h : w_X3_isFact P a1 M Q) : jC l yX3_isFact cX3_isFact 2 (some .boolean) rm_X3_isFact LC [.ref (P.1 2), .int a1] P M N (jqi P (fun r M' N' => M = M' ∧ N = N' ∧ Q r )) := by
  refine jC_of (by decide +kernel) [(0, .ref (P.1 2)), (1, .int a1)] (Nat.le_of_ble_eq_true rfl) rfl (fun X o => ?_)
  obtain ⟨E, hE⟩ : ∃ E, E = jE X rm_X3_isFact (jqi P (fun r M' N' => M = M' ∧ N = N' ∧ Q r )) := ⟨_, rfl⟩
  rw [← hE]
  unfold w_X3_isFact at h
  refine j_iload_n o dX3_isFact_0 rfl ?_
  refine j_if_lt o (tgt := 16) dX3_isFact_1 (by decide) (fun c1 => ?_) (fun c1 => ?_)
  · replace h := h.1 c1
    refine j_iconst o (v := 0) dX3_isFact_16 rfl ?_
    rw [hE]
    exact j_zret o rfl dX3_isFact_17 ⟨_, rfl, rfl, rfl, rfl, h⟩
  · replace h := h.2 c1
    refine j_iload_n o dX3_isFact_4 rfl ?_
    refine j_aload_n o dX3_isFact_5 rfl ?_
    refine j_getf o (g := 2) (slot := 0) (ci := 3) (v := .int (M 2 0)) rfl jin_X3 (by decide) rfl jf_X3_7 (fun _ => rfl) rfl dX3_isFact_6 ?_
    refine j_icmp_ge o (tgt := 16) dX3_isFact_9 (by decide) (fun c2 => ?_) (fun c2 => ?_)
    · replace h := h.1 c2
      refine j_iconst o (v := 0) dX3_isFact_16 rfl ?_
      rw [hE]
      exact j_zret o rfl dX3_isFact_17 ⟨_, rfl, rfl, rfl, rfl, h⟩
    · replace h := h.2 c2
      refine j_iconst o (v := 1) dX3_isFact_12 rfl ?_
      refine j_goto o (tgt := 17) dX3_isFact_13 (by decide) ?_
      rw [hE]
      exact j_zret o rfl dX3_isFact_17 ⟨_, rfl, rfl, rfl, rfl, h⟩

abbrev rm_X3_isCase : Room := { frames := 0, cells := 0, slots := 0, locals := 0 }
def w_X3_isCase (P : jP) (a1 : Int32) (M : jM) (Q : Int32 → Prop) : Prop :=
  (a1 < 0 → (
   Q 0
  )) ∧ (¬ a1 < 0 → (
   ((M 2 1) < a1 → (
    Q 0
   )) ∧ (¬ (M 2 1) < a1 → (
    Q 1
   ))
  ))
set_option maxRecDepth 20000 in
theorem c_X3_isCase (l : Launch) (P : jP) (a1 : Int32) (M : jM) (N : jN) (Q : Int32 → Prop) (h : w_X3_isCase P a1 M Q) : jC l yX3_isCase cX3_isCase 2 (some .boolean) rm_X3_isCase LC [.ref (P.1 2), .int a1] P M N (jqi P (fun r M' N' => M = M' ∧ N = N' ∧ Q r )) := by
  refine jC_of (by decide +kernel) [(0, .ref (P.1 2)), (1, .int a1)] (Nat.le_of_ble_eq_true rfl) rfl (fun X o => ?_)
  obtain ⟨E, hE⟩ : ∃ E, E = jE X rm_X3_isCase (jqi P (fun r M' N' => M = M' ∧ N = N' ∧ Q r )) := ⟨_, rfl⟩
  rw [← hE]
  unfold w_X3_isCase at h
  refine j_iload_n o dX3_isCase_0 rfl ?_
  refine j_if_lt o (tgt := 16) dX3_isCase_1 (by decide) (fun c1 => ?_) (fun c1 => ?_)
  · replace h := h.1 c1
    refine j_iconst o (v := 0) dX3_isCase_16 rfl ?_
    rw [hE]
    exact j_zret o rfl dX3_isCase_17 ⟨_, rfl, rfl, rfl, rfl, h⟩
  · replace h := h.2 c1
    refine j_iload_n o dX3_isCase_4 rfl ?_
    refine j_aload_n o dX3_isCase_5 rfl ?_
    refine j_getf o (g := 2) (slot := 1) (ci := 3) (v := .int (M 2 1)) rfl jin_X3 (by decide) rfl jf_X3_16 (fun _ => rfl) rfl dX3_isCase_6 ?_
    refine j_icmp_gt o (tgt := 16) dX3_isCase_9 (by decide) (fun c2 => ?_) (fun c2 => ?_)
    · replace h := h.1 c2
      refine j_iconst o (v := 0) dX3_isCase_16 rfl ?_
      rw [hE]
      exact j_zret o rfl dX3_isCase_17 ⟨_, rfl, rfl, rfl, rfl, h⟩
    · replace h := h.2 c2
      refine j_iconst o (v := 1) dX3_isCase_12 rfl ?_
      refine j_goto o (tgt := 17) dX3_isCase_13 (by decide) ?_
      rw [hE]
      exact j_zret o rfl dX3_isCase_17 ⟨_, rfl, rfl, rfl, rfl, h⟩

abbrev rm_X3_isKnown : Room := { frames := 1, cells := 0, slots := 0, locals := 21 }
def w_X3_isKnown (P : jP) (a1 : Int32) (a2 : Int32) (M : jM) (Q : Int32 → Prop) : Prop :=
  w_X3_isCase P a1 M (fun r1 =>
  (r1 = 0 → (
   Q 0
  )) ∧ (¬ r1 = 0 → (
   (¬ (a2 &&& (a1 ^^^ (-1))) = 0 → (
    Q 0
   )) ∧ ((a2 &&& (a1 ^^^ (-1))) = 0 → (
    Q 1
   ))
  )))
set_option maxRecDepth 20000 in
theorem c_X3_isKnown (l : Launch) (P : jP) (a1 : Int32) (a2 : Int32) (M : jM) (N : jN) (Q : Int32 → Prop) (h : w_X3_isKnown P a1 a2 M Q) : jC l yX3_isKnown cX3_isKnown 3 (some .boolean) rm_X3_isKnown LC [.ref (P.1 2), .int a1, .int a2] P M N (jqi P (fun r M' N' => M = M' ∧ N = N' ∧ Q r )) := by
  refine jC_of (by decide +kernel) [(0, .ref (P.1 2)), (1, .int a1), (2, .int a2)] (Nat.le_of_ble_eq_true rfl) rfl (fun X o => ?_)
  obtain ⟨E, hE⟩ : ∃ E, E = jE X rm_X3_isKnown (jqi P (fun r M' N' => M = M' ∧ N = N' ∧ Q r )) := ⟨_, rfl⟩
  rw [← hE]
  unfold w_X3_isKnown at h
  refine j_aload_n o dX3_isKnown_0 rfl ?_
  refine j_iload_n o dX3_isKnown_1 rfl ?_
  refine j_callVi (g := 2) (ci := 3) o (c_X3_isCase l P a1 M N _ h) dX3_isKnown_2 jc_X3_29 jn_X3_isCase rfl rfl rfl (fun _ => rfl) rfl rfl (fun r1 Mz2 Nz3 h => ?_)
  obtain ⟨rfl, rfl, h⟩ := h
  refine j_if_eq o (tgt := 20) dX3_isKnown_5 (by decide) (fun c4 => ?_) (fun c4 => ?_)
  · replace h := h.1 c4
    refine j_iconst o (v := 0) dX3_isKnown_20 rfl ?_
    rw [hE]
    exact j_zret o rfl dX3_isKnown_21 ⟨_, rfl, rfl, rfl, rfl, h⟩
  · replace h := h.2 c4
    refine j_iload_n o dX3_isKnown_8 rfl ?_
    refine j_iload_n o dX3_isKnown_9 rfl ?_
    refine j_iconst o (v := (-1)) dX3_isKnown_10 rfl ?_
    refine j_ixor o dX3_isKnown_11 ?_
    refine j_iand o dX3_isKnown_12 ?_
    refine j_if_ne o (tgt := 20) dX3_isKnown_13 (by decide) (fun c5 => ?_) (fun c5 => ?_)
    · replace h := h.1 c5
      refine j_iconst o (v := 0) dX3_isKnown_20 rfl ?_
      rw [hE]
      exact j_zret o rfl dX3_isKnown_21 ⟨_, rfl, rfl, rfl, rfl, h⟩
    · replace h := h.2 c5
      refine j_iconst o (v := 1) dX3_isKnown_16 rfl ?_
      refine j_goto o (tgt := 21) dX3_isKnown_17 (by decide) ?_
      rw [hE]
      exact j_zret o rfl dX3_isKnown_21 ⟨_, rfl, rfl, rfl, rfl, h⟩

abbrev rm_X4_outcomeOf : Room := { frames := 2, cells := 0, slots := 0, locals := 40 }
def w_X4_outcomeOf (P : jP) (g : Nat) (a1 : Int32) (M : jM) (Q : Int32 → Prop) : Prop :=
  w_X11_lowest P a1 (fun r1 =>
  cLw P g = true ∧
  ((M g 0) ≤ r1 → (
   Q (-1)
  )) ∧ (¬ (M g 0) ≤ r1 → (
   cLw P g = true ∧
   jin P (g + 1) r1 ∧
   Q (M (g + 1) r1.toNatClampNeg)
  )))
set_option maxRecDepth 20000 in
theorem c_X4_outcomeOf (l : Launch) (P : jP) (g : Nat) (a1 : Int32) (M : jM) (N : jN) (Q : Int32 → Prop) (h : w_X4_outcomeOf P g a1 M Q) : jC l yX4_outcomeOf cX4_outcomeOf 3 (some .int) rm_X4_outcomeOf LC [.ref (P.1 g), .int a1] P M N (jqi P (fun r M' N' => M = M' ∧ N = N' ∧ Q r )) := by
  refine jC_of (by decide +kernel) [(0, .ref (P.1 g)), (1, .int a1)] (Nat.le_of_ble_eq_true rfl) rfl (fun X o => ?_)
  obtain ⟨E, hE⟩ : ∃ E, E = jE X rm_X4_outcomeOf (jqi P (fun r M' N' => M = M' ∧ N = N' ∧ Q r )) := ⟨_, rfl⟩
  rw [← hE]
  unfold w_X4_outcomeOf at h
  refine j_iload_n o dX4_outcomeOf_0 rfl ?_
  refine j_callSNi o (c_X11_lowest l P a1 M N _ h) dX4_outcomeOf_1 jc_X4_34 jq_X4_34 jn_X11_lowest rfl rfl rfl rfl (fun r1 Mz2 Nz3 h => ?_)
  obtain ⟨rfl, rfl, h⟩ := h
  refine j_istore_n o [(2, .int r1), (0, .ref (P.1 g)), (1, .int a1)] dX4_outcomeOf_4 (by decide) rfl ?_
  refine j_iload_n o dX4_outcomeOf_5 rfl ?_
  refine j_aload_n o dX4_outcomeOf_6 rfl ?_
  obtain ⟨hb4, h⟩ := h
  refine j_getf o (g := g) (slot := 0) (ci := 4) (v := .int (M g 0)) rfl jin_X4 (by decide) rfl jf_X4_22 (fun tA => LC_lw hb4 tA _ _) rfl dX4_outcomeOf_7 ?_
  refine j_icmp_ge o (tgt := 22) dX4_outcomeOf_10 (by decide) (fun c5 => ?_) (fun c5 => ?_)
  · replace h := h.1 c5
    refine j_iconst o (v := (-1)) dX4_outcomeOf_22 rfl ?_
    rw [hE]
    exact j_iret o dX4_outcomeOf_23 ⟨_, rfl, rfl, rfl, rfl, h⟩
  · replace h := h.2 c5
    refine j_aload_n o dX4_outcomeOf_13 rfl ?_
    obtain ⟨hb6, h⟩ := h
    refine j_getf o (g := g) (slot := 1) (ci := 4) (v := .ref (P.1 (g + 1))) rfl jin_X4 (by decide) rfl jf_X4_9 (fun tA => LC_lw hb6 tA _ _) rfl dX4_outcomeOf_14 ?_
    refine j_iload_n o dX4_outcomeOf_17 rfl ?_
    obtain ⟨hb7, h⟩ := h
    obtain ⟨nnhb7, hchb7, hihb7⟩ := hb7
    refine j_iald o (g := g + 1) (fun tA => LC_ia hchb7 tA _ _) hihb7 dX4_outcomeOf_18 ?_
    refine j_goto o (tgt := 23) dX4_outcomeOf_19 (by decide) ?_
    rw [hE]
    exact j_iret o dX4_outcomeOf_23 ⟨_, rfl, rfl, rfl, rfl, h⟩

abbrev rm_X4_clashes : Room := { frames := 0, cells := 0, slots := 0, locals := 0 }
def w_X4_clashes (P : jP) (g : Nat) (a1 : Int32) (M : jM) (Q : Int32 → Prop) : Prop :=
  ∀ R2 : Int32 → Prop, (∀ (x1 : Int32), (
   cLw P g = true ∧
   ((M g 0) ≤ x1 → (
    Q 0
   )) ∧ (¬ (M g 0) ≤ x1 → (
    cLw P g = true ∧
    jin P (g + 2) a1 ∧
    ∀ R40 : Prop, ((
     R2 (x1 + 1)
    ) → R40) →
    ((((M (g + 2) a1.toNatClampNeg) >>> (x1 &&& 31)) &&& 1) = 0 → (
     R40
    )) ∧ (¬ (((M (g + 2) a1.toNatClampNeg) >>> (x1 &&& 31)) &&& 1) = 0 → (
     cLw P g = true ∧
     jin P (g + 1) x1 ∧
     cLw P g = true ∧
     jin P (g + 3) a1 ∧
     ((M (g + 1) x1.toNatClampNeg) = (M (g + 3) a1.toNatClampNeg) → (
      R40
     )) ∧ (¬ (M (g + 1) x1.toNatClampNeg) = (M (g + 3) a1.toNatClampNeg) → (
      Q 1
     ))
    ))
   ))
  ) → R2 x1) →
  R2 0
set_option maxRecDepth 20000 in
theorem c_X4_clashes (l : Launch) (P : jP) (g : Nat) (a1 : Int32) (M : jM) (N : jN) (Q : Int32 → Prop) (h : w_X4_clashes P g a1 M Q) : jC l yX4_clashes cX4_clashes 3 (some .boolean) rm_X4_clashes LC [.ref (P.1 g), .int a1] P M N (jqi P (fun r M' N' => M = M' ∧ N = N' ∧ Q r )) := by
  refine jC_of (by decide +kernel) [(0, .ref (P.1 g)), (1, .int a1)] (Nat.le_of_ble_eq_true rfl) rfl (fun X o => ?_)
  obtain ⟨E, hE⟩ : ∃ E, E = jE X rm_X4_clashes (jqi P (fun r M' N' => M = M' ∧ N = N' ∧ Q r )) := ⟨_, rfl⟩
  rw [← hE]
  unfold w_X4_clashes at h
  refine j_iconst o (v := 0) dX4_clashes_0 rfl ?_
  refine j_istore_n o [(2, .int 0), (0, .ref (P.1 g)), (1, .int a1)] dX4_clashes_1 (by decide) rfl ?_
  replace h := h (fun (x1 : Int32) => J X P M N 0 0 E 3 2 [(0, .ref (P.1 g)), (1, .int a1), (2, .int x1)] []) (by
    intro x1 h
    refine j_iload_n o dX4_clashes_2 rfl ?_
    refine j_aload_n o dX4_clashes_3 rfl ?_
    obtain ⟨hb2, h⟩ := h
    refine j_getf o (g := g) (slot := 0) (ci := 4) (v := .int (M g 0)) rfl jin_X4 (by decide) rfl jf_X4_22 (fun tA => LC_lw hb2 tA _ _) rfl dX4_clashes_4 ?_
    refine j_icmp_ge o (tgt := 46) dX4_clashes_7 (by decide) (fun c3 => ?_) (fun c3 => ?_)
    · replace h := h.1 c3
      refine j_iconst o (v := 0) dX4_clashes_46 rfl ?_
      rw [hE]
      exact j_zret o rfl dX4_clashes_47 ⟨_, rfl, rfl, rfl, rfl, h⟩
    · replace h := h.2 c3
      refine j_aload_n o dX4_clashes_10 rfl ?_
      obtain ⟨hb4, h⟩ := h
      refine j_getf o (g := g) (slot := 2) (ci := 4) (v := .ref (P.1 (g + 2))) rfl jin_X4 (by decide) rfl jf_X4_25 (fun tA => LC_lw hb4 tA _ _) rfl dX4_clashes_11 ?_
      refine j_iload_n o dX4_clashes_14 rfl ?_
      obtain ⟨hb5, h⟩ := h
      obtain ⟨nnhb5, hchb5, hihb5⟩ := hb5
      refine j_iald o (g := g + 2) (fun tA => LC_ia hchb5 tA _ _) hihb5 dX4_clashes_15 ?_
      refine j_iload_n o dX4_clashes_16 rfl ?_
      refine j_ishr o dX4_clashes_17 ?_
      refine j_iconst o (v := 1) dX4_clashes_18 rfl ?_
      refine j_iand o dX4_clashes_19 ?_
      replace h := h (J X P M N 0 0 E 3 40 [(0, .ref (P.1 g)), (1, .int a1), (2, .int x1)] []) (by
        intro h
        refine j_iinc o (v := x1 + 1) [(2, .int (x1 + 1)), (0, .ref (P.1 g)), (1, .int a1)] dX4_clashes_40 rfl rfl (by decide) rfl ?_
        refine j_goto o (tgt := 2) dX4_clashes_43 (by decide) ?_
        exact j_pick [1, 2, 0] rfl h)
      refine j_if_eq o (tgt := 40) dX4_clashes_20 (by decide) (fun c6 => ?_) (fun c6 => ?_)
      · replace h := h.1 c6
        exact j_pick [0, 1, 2] rfl h
      · replace h := h.2 c6
        refine j_aload_n o dX4_clashes_23 rfl ?_
        obtain ⟨hb7, h⟩ := h
        refine j_getf o (g := g) (slot := 1) (ci := 4) (v := .ref (P.1 (g + 1))) rfl jin_X4 (by decide) rfl jf_X4_9 (fun tA => LC_lw hb7 tA _ _) rfl dX4_clashes_24 ?_
        refine j_iload_n o dX4_clashes_27 rfl ?_
        obtain ⟨hb8, h⟩ := h
        obtain ⟨nnhb8, hchb8, hihb8⟩ := hb8
        refine j_iald o (g := g + 1) (fun tA => LC_ia hchb8 tA _ _) hihb8 dX4_clashes_28 ?_
        refine j_aload_n o dX4_clashes_29 rfl ?_
        obtain ⟨hb9, h⟩ := h
        refine j_getf o (g := g) (slot := 3) (ci := 4) (v := .ref (P.1 (g + 3))) rfl jin_X4 (by decide) rfl jf_X4_28 (fun tA => LC_lw hb9 tA _ _) rfl dX4_clashes_30 ?_
        refine j_iload_n o dX4_clashes_33 rfl ?_
        obtain ⟨hb10, h⟩ := h
        obtain ⟨nnhb10, hchb10, hihb10⟩ := hb10
        refine j_iald o (g := g + 3) (fun tA => LC_ia hchb10 tA _ _) hihb10 dX4_clashes_34 ?_
        refine j_icmp_eq o (tgt := 40) dX4_clashes_35 (by decide) (fun c11 => ?_) (fun c11 => ?_)
        · replace h := h.1 c11
          exact j_pick [0, 1, 2] rfl h
        · replace h := h.2 c11
          refine j_iconst o (v := 1) dX4_clashes_38 rfl ?_
          rw [hE]
          exact j_zret o rfl dX4_clashes_39 ⟨_, rfl, rfl, rfl, rfl, h⟩)
  exact j_pick [1, 2, 0] rfl h

abbrev rm_X4_sureAt : Room := { frames := 1, cells := 0, slots := 0, locals := 21 }
def w_X4_sureAt (P : jP) (g : Nat) (a1 : Int32) (M : jM) (Q : Int32 → Prop) : Prop :=
  cLw P g = true ∧
  w_X4_isSureAt P g a1 M (fun r1 =>
  (r1 = 0 → (
   Q (-2)
  )) ∧ (¬ r1 = 0 → (
   cLw P g = true ∧
   jin P (g + 4) a1 ∧
   Q ((M (g + 4) a1.toNatClampNeg) - 1)
  )))
set_option maxRecDepth 20000 in
theorem c_X4_sureAt (l : Launch) (P : jP) (g : Nat) (a1 : Int32) (M : jM) (N : jN) (Q : Int32 → Prop) (h : w_X4_sureAt P g a1 M Q) : jC l yX4_sureAt cX4_sureAt 2 (some .int) rm_X4_sureAt LC [.ref (P.1 g), .int a1] P M N (jqi P (fun r M' N' => M = M' ∧ N = N' ∧ Q r )) := by
  refine jC_of (by decide +kernel) [(0, .ref (P.1 g)), (1, .int a1)] (Nat.le_of_ble_eq_true rfl) rfl (fun X o => ?_)
  obtain ⟨E, hE⟩ : ∃ E, E = jE X rm_X4_sureAt (jqi P (fun r M' N' => M = M' ∧ N = N' ∧ Q r )) := ⟨_, rfl⟩
  rw [← hE]
  unfold w_X4_sureAt at h
  refine j_aload_n o dX4_sureAt_0 rfl ?_
  refine j_iload_n o dX4_sureAt_1 rfl ?_
  obtain ⟨hb4, h⟩ := h
  refine j_callVi (g := g) (ci := 4) o (c_X4_isSureAt l P g a1 M N _ h) dX4_sureAt_2 jc_X4_38 jn_X4_isSureAt rfl rfl rfl (fun tA => LC_lw hb4 tA _ _) rfl rfl (fun r1 Mz2 Nz3 h => ?_)
  obtain ⟨rfl, rfl, h⟩ := h
  refine j_if_eq o (tgt := 19) dX4_sureAt_5 (by decide) (fun c5 => ?_) (fun c5 => ?_)
  · replace h := h.1 c5
    refine j_bipush o (v := (-2)) dX4_sureAt_19 rfl ?_
    rw [hE]
    exact j_iret o dX4_sureAt_21 ⟨_, rfl, rfl, rfl, rfl, h⟩
  · replace h := h.2 c5
    refine j_aload_n o dX4_sureAt_8 rfl ?_
    obtain ⟨hb6, h⟩ := h
    refine j_getf o (g := g) (slot := 4) (ci := 4) (v := .ref (P.1 (g + 4))) rfl jin_X4 (by decide) rfl jf_X4_31 (fun tA => LC_lw hb6 tA _ _) rfl dX4_sureAt_9 ?_
    refine j_iload_n o dX4_sureAt_12 rfl ?_
    obtain ⟨hb7, h⟩ := h
    obtain ⟨nnhb7, hchb7, hihb7⟩ := hb7
    refine j_iald o (g := g + 4) (fun tA => LC_ia hchb7 tA _ _) hihb7 dX4_sureAt_13 ?_
    refine j_iconst o (v := 1) dX4_sureAt_14 rfl ?_
    refine j_isub o dX4_sureAt_15 ?_
    refine j_goto o (tgt := 21) dX4_sureAt_16 (by decide) ?_
    rw [hE]
    exact j_iret o dX4_sureAt_21 ⟨_, rfl, rfl, rfl, rfl, h⟩

abbrev rm_X5_added : Room := { frames := 0, cells := 0, slots := 0, locals := 0 }
def w_X5_added (P : jP) (a1 : Int32) (M : jM) (Q : Int32 → jM → Prop) : Prop :=
  (a1 < 1 → (
   Q (-1) M
  )) ∧ (¬ a1 < 1 → (
   (9 < a1 → (
    Q (-1) M
   )) ∧ (¬ 9 < a1 → (
    ((M 7 1) < 4 → (
     vp_in (M 7 1) (4) ∧
     ∀ M5 : jM, M5 = upM (upM M 29 (M 7 1).toNatClampNeg a1) 7 1 (((upM M 29 (M 7 1).toNatClampNeg a1) 7 1) + 1) →
     Q ((upM M 29 (M 7 1).toNatClampNeg a1) 7 1) M5
    )) ∧ (¬ (M 7 1) < 4 → (
     Q (-1) M
    ))
   ))
  ))
set_option maxRecDepth 20000 in
theorem c_X5_added (l : Launch) (P : jP) (a1 : Int32) (M : jM) (N : jN) (Q : Int32 → jM → Prop) (h : w_X5_added P a1 M Q) : jC l yX5_added cX5_added 2 (some .int) rm_X5_added LC [.ref (P.1 7), .int a1] P M N (jqi P (fun r M' N' => N = N' ∧ Q r M' )) := by
  refine jC_of (by decide +kernel) [(0, .ref (P.1 7)), (1, .int a1)] (Nat.le_of_ble_eq_true rfl) rfl (fun X o => ?_)
  obtain ⟨E, hE⟩ : ∃ E, E = jE X rm_X5_added (jqi P (fun r M' N' => N = N' ∧ Q r M' )) := ⟨_, rfl⟩
  rw [← hE]
  unfold w_X5_added at h
  refine j_iload_n o dX5_added_0 rfl ?_
  refine j_iconst o (v := 1) dX5_added_1 rfl ?_
  refine j_icmp_lt o (tgt := 19) dX5_added_2 (by decide) (fun c1 => ?_) (fun c1 => ?_)
  · replace h := h.1 c1
    refine j_iconst o (v := (-1)) dX5_added_19 rfl ?_
    rw [hE]
    exact j_iret o dX5_added_20 ⟨_, rfl, rfl, rfl, h⟩
  · replace h := h.2 c1
    refine j_iload_n o dX5_added_5 rfl ?_
    refine j_bipush o (v := 9) dX5_added_6 rfl ?_
    refine j_icmp_gt o (tgt := 19) dX5_added_8 (by decide) (fun c2 => ?_) (fun c2 => ?_)
    · replace h := h.1 c2
      refine j_iconst o (v := (-1)) dX5_added_19 rfl ?_
      rw [hE]
      exact j_iret o dX5_added_20 ⟨_, rfl, rfl, rfl, h⟩
    · replace h := h.2 c2
      refine j_aload_n o dX5_added_11 rfl ?_
      refine j_getf o (g := 7) (slot := 1) (ci := 5) (v := .int (M 7 1)) rfl jin_X5 (by decide) rfl jf_X5_24 (fun _ => rfl) rfl dX5_added_12 ?_
      refine j_iconst o (v := 4) dX5_added_15 rfl ?_
      refine j_icmp_lt o (tgt := 21) dX5_added_16 (by decide) (fun c3 => ?_) (fun c3 => ?_)
      · replace h := h.1 c3
        refine j_aload_n o dX5_added_21 rfl ?_
        refine j_getf o (g := 7) (slot := 2) (ci := 5) (v := .ref (P.1 29)) rfl jin_X5 (by decide) rfl jf_X5_9 (fun _ => rfl) rfl dX5_added_22 ?_
        refine j_aload_n o dX5_added_25 rfl ?_
        refine j_getf o (g := 7) (slot := 1) (ci := 5) (v := .int (M 7 1)) rfl jin_X5 (by decide) rfl jf_X5_24 (fun _ => rfl) rfl dX5_added_26 ?_
        refine j_iload_n o dX5_added_29 rfl ?_
        obtain ⟨hb4, h⟩ := h
        refine j_iast o (g := 29) (fun _ _ _ => rfl) hb4 dX5_added_30 ?_
        refine j_aload_n o dX5_added_31 rfl ?_
        refine j_dup o dX5_added_32 rfl ?_
        refine j_getf o (g := 7) (slot := 1) (ci := 5) (v := .int ((upM M 29 (M 7 1).toNatClampNeg a1) 7 1)) rfl jin_X5 (by decide) rfl jf_X5_24 (fun _ => rfl) rfl dX5_added_33 ?_
        refine j_dup_x1 o dX5_added_36 rfl rfl ?_
        refine j_iconst o (v := 1) dX5_added_37 rfl ?_
        refine j_iadd o dX5_added_38 ?_
        refine j_putf o (M1 := upM (upM M 29 (M 7 1).toNatClampNeg a1) 7 1 (((upM M 29 (M 7 1).toNatClampNeg a1) 7 1) + 1)) (N1 := N) (g := 7) (slot := 1) (ci := 5) (ty := .int) rfl jin_X5 tyX5_ok nmX5 (by decide) rfl rfl jf_X5_24 (by decide +kernel) rfl rfl (Nat.le_of_ble_eq_true rfl) (fun _ => rfl) (fun _ => rfl) (fun _ hj => upM_ne _ _ _ hj) (fun _ _ => rfl) dX5_added_39 ?_
        refine j_nameM (fun M5 hM5 => ?_)
        replace h := h M5 hM5
        rw [hE]
        exact j_iret o dX5_added_42 ⟨_, rfl, rfl, rfl, h⟩
      · replace h := h.2 c3
        refine j_iconst o (v := (-1)) dX5_added_19 rfl ?_
        rw [hE]
        exact j_iret o dX5_added_20 ⟨_, rfl, rfl, rfl, h⟩

abbrev rm_X5_setChance : Room := { frames := 0, cells := 0, slots := 0, locals := 0 }
def w_X5_setChance (P : jP) (a1 : Int32) (a2 : Int32) (a3 : Int32) (M : jM) (Q : Int32 → jM → Prop) : Prop :=
  (a1 < 0 → (
   Q 0 M
  )) ∧ (¬ a1 < 0 → (
   ((M 7 1) ≤ a1 → (
    Q 0 M
   )) ∧ (¬ (M 7 1) ≤ a1 → (
    (a2 < 0 → (
     Q 0 M
    )) ∧ (¬ a2 < 0 → (
     ((M 7 0) ≤ a2 → (
      Q 0 M
     )) ∧ (¬ (M 7 0) ≤ a2 → (
      (a3 < 0 → (
       Q 0 M
      )) ∧ (¬ a3 < 0 → (
       (a3 ≤ 10 → (
        vp_in a1 (4) ∧
        jin P (31 + a1.toNatClampNeg) a2 ∧
        ∀ M9 : jM, M9 = upM M (31 + a1.toNatClampNeg) a2.toNatClampNeg a3 →
        Q 1 M9
       )) ∧ (¬ a3 ≤ 10 → (
        Q 0 M
       ))
      ))
     ))
    ))
   ))
  ))
set_option maxRecDepth 20000 in
theorem c_X5_setChance (l : Launch) (P : jP) (a1 : Int32) (a2 : Int32) (a3 : Int32) (M : jM) (N : jN) (Q : Int32 → jM → Prop) (h : w_X5_setChance P a1 a2 a3 M Q) : jC l yX5_setChance cX5_setChance 4 (some .boolean) rm_X5_setChance LC [.ref (P.1 7), .int a1, .int a2, .int a3] P M N (jqi P (fun r M' N' => N = N' ∧ Q r M' )) := by
  refine jC_of (by decide +kernel) [(0, .ref (P.1 7)), (1, .int a1), (2, .int a2), (3, .int a3)] (Nat.le_of_ble_eq_true rfl) rfl (fun X o => ?_)
  obtain ⟨E, hE⟩ : ∃ E, E = jE X rm_X5_setChance (jqi P (fun r M' N' => N = N' ∧ Q r M' )) := ⟨_, rfl⟩
  rw [← hE]
  unfold w_X5_setChance at h
  refine j_iload_n o dX5_setChance_0 rfl ?_
  refine j_if_lt o (tgt := 34) dX5_setChance_1 (by decide) (fun c1 => ?_) (fun c1 => ?_)
  · replace h := h.1 c1
    refine j_iconst o (v := 0) dX5_setChance_34 rfl ?_
    rw [hE]
    exact j_zret o rfl dX5_setChance_35 ⟨_, rfl, rfl, rfl, h⟩
  · replace h := h.2 c1
    refine j_iload_n o dX5_setChance_4 rfl ?_
    refine j_aload_n o dX5_setChance_5 rfl ?_
    refine j_getf o (g := 7) (slot := 1) (ci := 5) (v := .int (M 7 1)) rfl jin_X5 (by decide) rfl jf_X5_24 (fun _ => rfl) rfl dX5_setChance_6 ?_
    refine j_icmp_ge o (tgt := 34) dX5_setChance_9 (by decide) (fun c2 => ?_) (fun c2 => ?_)
    · replace h := h.1 c2
      refine j_iconst o (v := 0) dX5_setChance_34 rfl ?_
      rw [hE]
      exact j_zret o rfl dX5_setChance_35 ⟨_, rfl, rfl, rfl, h⟩
    · replace h := h.2 c2
      refine j_iload_n o dX5_setChance_12 rfl ?_
      refine j_if_lt o (tgt := 34) dX5_setChance_13 (by decide) (fun c3 => ?_) (fun c3 => ?_)
      · replace h := h.1 c3
        refine j_iconst o (v := 0) dX5_setChance_34 rfl ?_
        rw [hE]
        exact j_zret o rfl dX5_setChance_35 ⟨_, rfl, rfl, rfl, h⟩
      · replace h := h.2 c3
        refine j_iload_n o dX5_setChance_16 rfl ?_
        refine j_aload_n o dX5_setChance_17 rfl ?_
        refine j_getf o (g := 7) (slot := 0) (ci := 5) (v := .int (M 7 0)) rfl jin_X5 (by decide) rfl jf_X5_15 (fun _ => rfl) rfl dX5_setChance_18 ?_
        refine j_icmp_ge o (tgt := 34) dX5_setChance_21 (by decide) (fun c4 => ?_) (fun c4 => ?_)
        · replace h := h.1 c4
          refine j_iconst o (v := 0) dX5_setChance_34 rfl ?_
          rw [hE]
          exact j_zret o rfl dX5_setChance_35 ⟨_, rfl, rfl, rfl, h⟩
        · replace h := h.2 c4
          refine j_iload_n o dX5_setChance_24 rfl ?_
          refine j_if_lt o (tgt := 34) dX5_setChance_25 (by decide) (fun c5 => ?_) (fun c5 => ?_)
          · replace h := h.1 c5
            refine j_iconst o (v := 0) dX5_setChance_34 rfl ?_
            rw [hE]
            exact j_zret o rfl dX5_setChance_35 ⟨_, rfl, rfl, rfl, h⟩
          · replace h := h.2 c5
            refine j_iload_n o dX5_setChance_28 rfl ?_
            refine j_bipush o (v := 10) dX5_setChance_29 rfl ?_
            refine j_icmp_le o (tgt := 36) dX5_setChance_31 (by decide) (fun c6 => ?_) (fun c6 => ?_)
            · replace h := h.1 c6
              refine j_aload_n o dX5_setChance_36 rfl ?_
              refine j_getf o (g := 7) (slot := 3) (ci := 5) (v := .ref (P.1 30)) rfl jin_X5 (by decide) rfl jf_X5_21 (fun _ => rfl) rfl dX5_setChance_37 ?_
              refine j_iload_n o dX5_setChance_40 rfl ?_
              obtain ⟨hb7, h⟩ := h
              refine j_aaldInts2 o (g := 30) (fun _ => rfl) hb7 dX5_setChance_41 ?_
              refine j_iload_n o dX5_setChance_42 rfl ?_
              refine j_iload_n o dX5_setChance_43 rfl ?_
              obtain ⟨hb8, h⟩ := h
              obtain ⟨nnhb8, hchb8, hihb8⟩ := hb8
              refine j_iast o (g := 31 + a1.toNatClampNeg) (LC_ia hchb8) hihb8 dX5_setChance_44 ?_
              refine j_nameM (fun M9 hM9 => ?_)
              replace h := h M9 hM9
              refine j_iconst o (v := 1) dX5_setChance_45 rfl ?_
              rw [hE]
              exact j_zret o rfl dX5_setChance_46 ⟨_, rfl, rfl, rfl, h⟩
            · replace h := h.2 c6
              refine j_iconst o (v := 0) dX5_setChance_34 rfl ?_
              rw [hE]
              exact j_zret o rfl dX5_setChance_35 ⟨_, rfl, rfl, rfl, h⟩

abbrev rm_X5_allWeights : Room := { frames := 0, cells := 0, slots := 0, locals := 0 }
def w_X5_allWeights (P : jP)  (M : jM) (Q : Int32 → Prop) : Prop :=
  ∀ R4 : Int32 → Int32 → Prop, (∀ (x1 : Int32) (x2 : Int32), (
   ((M 7 1) ≤ x2 → (
    Q x1
   )) ∧ (¬ (M 7 1) ≤ x2 → (
    vp_in x2 (4) ∧
    R4 (x1 + (M 29 x2.toNatClampNeg)) (x2 + 1)
   ))
  ) → R4 x1 x2) →
  R4 0 0
set_option maxRecDepth 20000 in
theorem c_X5_allWeights (l : Launch) (P : jP)  (M : jM) (N : jN) (Q : Int32 → Prop) (h : w_X5_allWeights P M Q) : jC l yX5_allWeights cX5_allWeights 3 (some .int) rm_X5_allWeights LC [.ref (P.1 7)] P M N (jqi P (fun r M' N' => M = M' ∧ N = N' ∧ Q r )) := by
  refine jC_of (by decide +kernel) [(0, .ref (P.1 7))] (Nat.le_of_ble_eq_true rfl) rfl (fun X o => ?_)
  obtain ⟨E, hE⟩ : ∃ E, E = jE X rm_X5_allWeights (jqi P (fun r M' N' => M = M' ∧ N = N' ∧ Q r )) := ⟨_, rfl⟩
  rw [← hE]
  unfold w_X5_allWeights at h
  refine j_iconst o (v := 0) dX5_allWeights_0 rfl ?_
  refine j_istore_n o [(1, .int 0), (0, .ref (P.1 7))] dX5_allWeights_1 (by decide) rfl ?_
  refine j_iconst o (v := 0) dX5_allWeights_2 rfl ?_
  refine j_istore_n o [(2, .int 0), (1, .int 0), (0, .ref (P.1 7))] dX5_allWeights_3 (by decide) rfl ?_
  replace h := h (fun (x1 : Int32) (x2 : Int32) => J X P M N 0 0 E 3 4 [(0, .ref (P.1 7)), (1, .int x1), (2, .int x2)] []) (by
    intro x1 x2 h
    refine j_iload_n o dX5_allWeights_4 rfl ?_
    refine j_aload_n o dX5_allWeights_5 rfl ?_
    refine j_getf o (g := 7) (slot := 1) (ci := 5) (v := .int (M 7 1)) rfl jin_X5 (by decide) rfl jf_X5_24 (fun _ => rfl) rfl dX5_allWeights_6 ?_
    refine j_icmp_ge o (tgt := 27) dX5_allWeights_9 (by decide) (fun c3 => ?_) (fun c3 => ?_)
    · replace h := h.1 c3
      refine j_iload_n o dX5_allWeights_27 rfl ?_
      rw [hE]
      exact j_iret o dX5_allWeights_28 ⟨_, rfl, rfl, rfl, rfl, h⟩
    · replace h := h.2 c3
      refine j_iload_n o dX5_allWeights_12 rfl ?_
      refine j_aload_n o dX5_allWeights_13 rfl ?_
      refine j_getf o (g := 7) (slot := 2) (ci := 5) (v := .ref (P.1 29)) rfl jin_X5 (by decide) rfl jf_X5_9 (fun _ => rfl) rfl dX5_allWeights_14 ?_
      refine j_iload_n o dX5_allWeights_17 rfl ?_
      obtain ⟨hb4, h⟩ := h
      refine j_iald o (g := 29) (fun _ => rfl) hb4 dX5_allWeights_18 ?_
      refine j_iadd o dX5_allWeights_19 ?_
      refine j_istore_n o [(1, .int (x1 + (M 29 x2.toNatClampNeg))), (0, .ref (P.1 7)), (2, .int x2)] dX5_allWeights_20 (by decide) rfl ?_
      refine j_iinc o (v := x2 + 1) [(2, .int (x2 + 1)), (1, .int (x1 + (M 29 x2.toNatClampNeg))), (0, .ref (P.1 7))] dX5_allWeights_21 rfl rfl (by decide) rfl ?_
      refine j_goto o (tgt := 4) dX5_allWeights_24 (by decide) ?_
      exact j_pick [2, 1, 0] rfl h)
  exact j_pick [2, 1, 0] rfl h

abbrev rm_X5_draw : Room := { frames := 0, cells := 0, slots := 0, locals := 0 }
def w_X5_draw (P : jP) (a1 : Int64) (a2 : Int32) (Q : Int32 → Prop) : Prop :=
  (1 ≤ a2 → (
   ¬ a2.toInt64 = 0 ∧
   Q (((jlushr a1 33) - (jlushr a1 33) / a2.toInt64 * a2.toInt64).toInt32)
  )) ∧ (¬ 1 ≤ a2 → (
   Q 0
  ))
set_option maxRecDepth 20000 in
theorem c_X5_draw (l : Launch) (P : jP) (a1 : Int64) (a2 : Int32) (M : jM) (N : jN) (Q : Int32 → Prop) (h : w_X5_draw P a1 a2 Q) : jC l yX5_draw cX5_draw 3 (some .int) rm_X5_draw LC [.long a1, .int a2] P M N (jqi P (fun r M' N' => M = M' ∧ N = N' ∧ Q r )) := by
  refine jC_of (by decide +kernel) [(0, .long a1), (2, .int a2)] (Nat.le_of_ble_eq_true rfl) rfl (fun X o => ?_)
  obtain ⟨E, hE⟩ : ∃ E, E = jE X rm_X5_draw (jqi P (fun r M' N' => M = M' ∧ N = N' ∧ Q r )) := ⟨_, rfl⟩
  rw [← hE]
  unfold w_X5_draw at h
  refine j_iload_n o dX5_draw_0 rfl ?_
  refine j_iconst o (v := 1) dX5_draw_1 rfl ?_
  refine j_icmp_ge o (tgt := 9) dX5_draw_2 (by decide) (fun c1 => ?_) (fun c1 => ?_)
  · replace h := h.1 c1
    refine j_lload_n o dX5_draw_9 rfl ?_
    refine j_bipush o (v := 33) dX5_draw_10 rfl ?_
    refine j_lushr o dX5_draw_12 ?_
    refine j_iload_n o dX5_draw_13 rfl ?_
    refine j_i2l o dX5_draw_14 ?_
    obtain ⟨hz2, h⟩ := h
    refine j_lrem o dX5_draw_15 hz2 ?_
    refine j_l2i o dX5_draw_16 ?_
    rw [hE]
    exact j_iret o dX5_draw_17 ⟨_, rfl, rfl, rfl, rfl, h⟩
  · replace h := h.2 c1
    refine j_iconst o (v := 0) dX5_draw_5 rfl ?_
    refine j_goto o (tgt := 17) dX5_draw_6 (by decide) ?_
    rw [hE]
    exact j_iret o dX5_draw_17 ⟨_, rfl, rfl, rfl, rfl, h⟩

abbrev rm_X5_sortOf : Room := { frames := 0, cells := 0, slots := 0, locals := 0 }
def w_X5_sortOf (P : jP) (a1 : Int32) (M : jM) (Q : Int32 → Prop) : Prop :=
  ∀ R4 : Int32 → Int32 → Prop, (∀ (x1 : Int32) (x2 : Int32), (
   ((M 7 1) ≤ x2 → (
    Q 0
   )) ∧ (¬ (M 7 1) ≤ x2 → (
    vp_in x2 (4) ∧
    (0 ≤ (x1 - (M 29 x2.toNatClampNeg)) → (
     R4 (x1 - (M 29 x2.toNatClampNeg)) (x2 + 1)
    )) ∧ (¬ 0 ≤ (x1 - (M 29 x2.toNatClampNeg)) → (
     Q x2
    ))
   ))
  ) → R4 x1 x2) →
  R4 a1 0
set_option maxRecDepth 20000 in
theorem c_X5_sortOf (l : Launch) (P : jP) (a1 : Int32) (M : jM) (N : jN) (Q : Int32 → Prop) (h : w_X5_sortOf P a1 M Q) : jC l yX5_sortOf cX5_sortOf 4 (some .int) rm_X5_sortOf LC [.ref (P.1 7), .int a1] P M N (jqi P (fun r M' N' => M = M' ∧ N = N' ∧ Q r )) := by
  refine jC_of (by decide +kernel) [(0, .ref (P.1 7)), (1, .int a1)] (Nat.le_of_ble_eq_true rfl) rfl (fun X o => ?_)
  obtain ⟨E, hE⟩ : ∃ E, E = jE X rm_X5_sortOf (jqi P (fun r M' N' => M = M' ∧ N = N' ∧ Q r )) := ⟨_, rfl⟩
  rw [← hE]
  unfold w_X5_sortOf at h
  refine j_iload_n o dX5_sortOf_0 rfl ?_
  refine j_istore_n o [(2, .int a1), (0, .ref (P.1 7)), (1, .int a1)] dX5_sortOf_1 (by decide) rfl ?_
  refine j_iconst o (v := 0) dX5_sortOf_2 rfl ?_
  refine j_istore_n o [(3, .int 0), (2, .int a1), (0, .ref (P.1 7)), (1, .int a1)] dX5_sortOf_3 (by decide) rfl ?_
  replace h := h (fun (x1 : Int32) (x2 : Int32) => J X P M N 0 0 E 4 4 [(0, .ref (P.1 7)), (2, .int x1), (3, .int x2)] []) (by
    intro x1 x2 h
    refine j_iload_n o dX5_sortOf_4 rfl ?_
    refine j_aload_n o dX5_sortOf_5 rfl ?_
    refine j_getf o (g := 7) (slot := 1) (ci := 5) (v := .int (M 7 1)) rfl jin_X5 (by decide) rfl jf_X5_24 (fun _ => rfl) rfl dX5_sortOf_6 ?_
    refine j_icmp_ge o (tgt := 33) dX5_sortOf_9 (by decide) (fun c3 => ?_) (fun c3 => ?_)
    · replace h := h.1 c3
      refine j_iconst o (v := 0) dX5_sortOf_33 rfl ?_
      rw [hE]
      exact j_iret o dX5_sortOf_34 ⟨_, rfl, rfl, rfl, rfl, h⟩
    · replace h := h.2 c3
      refine j_iload_n o dX5_sortOf_12 rfl ?_
      refine j_aload_n o dX5_sortOf_13 rfl ?_
      refine j_getf o (g := 7) (slot := 2) (ci := 5) (v := .ref (P.1 29)) rfl jin_X5 (by decide) rfl jf_X5_9 (fun _ => rfl) rfl dX5_sortOf_14 ?_
      refine j_iload_n o dX5_sortOf_17 rfl ?_
      obtain ⟨hb4, h⟩ := h
      refine j_iald o (g := 29) (fun _ => rfl) hb4 dX5_sortOf_18 ?_
      refine j_isub o dX5_sortOf_19 ?_
      refine j_istore_n o [(2, .int (x1 - (M 29 x2.toNatClampNeg))), (0, .ref (P.1 7)), (3, .int x2)] dX5_sortOf_20 (by decide) rfl ?_
      refine j_iload_n o dX5_sortOf_21 rfl ?_
      refine j_if_ge o (tgt := 27) dX5_sortOf_22 (by decide) (fun c5 => ?_) (fun c5 => ?_)
      · replace h := h.1 c5
        refine j_iinc o (v := x2 + 1) [(3, .int (x2 + 1)), (2, .int (x1 - (M 29 x2.toNatClampNeg))), (0, .ref (P.1 7))] dX5_sortOf_27 rfl rfl (by decide) rfl ?_
        refine j_goto o (tgt := 4) dX5_sortOf_30 (by decide) ?_
        exact j_pick [2, 1, 0] rfl h
      · replace h := h.2 c5
        refine j_iload_n o dX5_sortOf_25 rfl ?_
        rw [hE]
        exact j_iret o dX5_sortOf_26 ⟨_, rfl, rfl, rfl, rfl, h⟩)
  exact j_pick [2, 1, 0] rfl h

abbrev rm_X5_stepped : Room := { frames := 0, cells := 0, slots := 0, locals := 0 }
def w_X5_stepped (P : jP) (a1 : Int64) (Q : Int64 → Prop) : Prop :=
  Q ((a1 * 6364136223846793005) + 1442695040888963407)
set_option maxRecDepth 20000 in
theorem c_X5_stepped (l : Launch) (P : jP) (a1 : Int64) (M : jM) (N : jN) (Q : Int64 → Prop) (h : w_X5_stepped P a1 Q) : jC l yX5_stepped cX5_stepped 2 (some .long) rm_X5_stepped LC [.long a1] P M N (jql P (fun r M' N' => M = M' ∧ N = N' ∧ Q r )) := by
  refine jC_of (by decide +kernel) [(0, .long a1)] (Nat.le_of_ble_eq_true rfl) rfl (fun X o => ?_)
  obtain ⟨E, hE⟩ : ∃ E, E = jE X rm_X5_stepped (jql P (fun r M' N' => M = M' ∧ N = N' ∧ Q r )) := ⟨_, rfl⟩
  rw [← hE]
  unfold w_X5_stepped at h
  refine j_lload_n o dX5_stepped_0 rfl ?_
  refine j_ldc2 o jk_X5_49 dX5_stepped_1 ?_
  refine j_lmul o dX5_stepped_4 ?_
  refine j_ldc2 o jk_X5_51 dX5_stepped_5 ?_
  refine j_ladd o dX5_stepped_8 ?_
  rw [hE]
  exact j_lret o dX5_stepped_9 ⟨_, rfl, rfl, rfl, rfl, h⟩

abbrev rm_X5_drawn : Room := { frames := 1, cells := 0, slots := 0, locals := 23 }
def w_X5_drawn (P : jP) (a1 : Int64) (a2 : Int32) (M : jM) (Q : Int32 → Prop) : Prop :=
  w_X5_stepped P a1 (fun r1 =>
  w_X5_allWeights P M (fun r4 =>
  w_X5_draw P r1 r4 (fun r7 =>
  w_X5_sortOf P r7 M (fun r10 =>
  ∀ R27 : Int64 → Int32 → Int32 → Prop, (∀ (x13 : Int64) (x14 : Int32) (x15 : Int32), (
   ((M 7 0) ≤ x15 → (
    (a2 = 0 → (
     Q r10
    )) ∧ (¬ a2 = 0 → (
     Q x14
    ))
   )) ∧ (¬ (M 7 0) ≤ x15 → (
    w_X5_stepped P x13 (fun r18 =>
    w_X5_draw P r18 10 (fun r21 =>
    vp_in r10 (4) ∧
    jin P (31 + r10.toNatClampNeg) x15 ∧
    ∀ R72 : Int32 → Prop, (∀ (x26 : Int32), (
     R27 r18 x26 (x15 + 1)
    ) → R72 x26) →
    ((M (31 + r10.toNatClampNeg) x15.toNatClampNeg) ≤ r21 → (
     R72 x14
    )) ∧ (¬ (M (31 + r10.toNatClampNeg) x15.toNatClampNeg) ≤ r21 → (
     R72 (x14 ||| ((1 : Int32) <<< (x15 &&& 31)))
    ))))
   ))
  ) → R27 x13 x14 x15) →
  R27 r1 0 0))))
set_option maxRecDepth 20000 in
theorem c_X5_drawn (l : Launch) (P : jP) (a1 : Int64) (a2 : Int32) (M : jM) (N : jN) (Q : Int32 → Prop) (h : w_X5_drawn P a1 a2 M Q) : jC l yX5_drawn cX5_drawn 9 (some .int) rm_X5_drawn LC [.ref (P.1 7), .long a1, .int a2] P M N (jqi P (fun r M' N' => M = M' ∧ N = N' ∧ Q r )) := by
  refine jC_of (by decide +kernel) [(0, .ref (P.1 7)), (1, .long a1), (3, .int a2)] (Nat.le_of_ble_eq_true rfl) rfl (fun X o => ?_)
  obtain ⟨E, hE⟩ : ∃ E, E = jE X rm_X5_drawn (jqi P (fun r M' N' => M = M' ∧ N = N' ∧ Q r )) := ⟨_, rfl⟩
  rw [← hE]
  unfold w_X5_drawn at h
  refine j_lload_n o dX5_drawn_0 rfl ?_
  refine j_callSl o (c_X5_stepped l P a1 M N _ h) dX5_drawn_1 jc_X5_33 jn_X5_stepped rfl rfl rfl rfl (fun r1 Mz2 Nz3 h => ?_)
  obtain ⟨rfl, rfl, h⟩ := h
  refine j_lstore o [(4, .long r1), (0, .ref (P.1 7)), (1, .long a1), (3, .int a2)] dX5_drawn_4 (by decide) rfl ?_
  refine j_aload_n o dX5_drawn_6 rfl ?_
  refine j_lload o dX5_drawn_7 rfl ?_
  refine j_aload_n o dX5_drawn_9 rfl ?_
  refine j_callVi (g := 7) (ci := 5) o (c_X5_allWeights l P M N _ h) dX5_drawn_10 jc_X5_37 jn_X5_allWeights rfl rfl rfl (fun _ => rfl) rfl rfl (fun r4 Mz5 Nz6 h => ?_)
  obtain ⟨rfl, rfl, h⟩ := h
  refine j_callSi o (c_X5_draw l P r1 r4 M N _ h) dX5_drawn_13 jc_X5_41 jn_X5_draw rfl rfl rfl rfl (fun r7 Mz8 Nz9 h => ?_)
  obtain ⟨rfl, rfl, h⟩ := h
  refine j_callVi (g := 7) (ci := 5) o (c_X5_sortOf l P r7 M N _ h) dX5_drawn_16 jc_X5_45 jn_X5_sortOf rfl rfl rfl (fun _ => rfl) rfl rfl (fun r10 Mz11 Nz12 h => ?_)
  obtain ⟨rfl, rfl, h⟩ := h
  refine j_istore o [(6, .int r10), (4, .long r1), (0, .ref (P.1 7)), (1, .long a1), (3, .int a2)] dX5_drawn_19 (by decide) rfl ?_
  refine j_iconst o (v := 0) dX5_drawn_21 rfl ?_
  refine j_istore o [(7, .int 0), (6, .int r10), (4, .long r1), (0, .ref (P.1 7)), (1, .long a1), (3, .int a2)] dX5_drawn_22 (by decide) rfl ?_
  refine j_iconst o (v := 0) dX5_drawn_24 rfl ?_
  refine j_istore o [(8, .int 0), (7, .int 0), (6, .int r10), (4, .long r1), (0, .ref (P.1 7)), (1, .long a1), (3, .int a2)] dX5_drawn_25 (by decide) rfl ?_
  replace h := h (fun (x13 : Int64) (x14 : Int32) (x15 : Int32) => J X P M N 0 0 E 9 27 [(0, .ref (P.1 7)), (3, .int a2), (4, .long x13), (6, .int r10), (7, .int x14), (8, .int x15)] []) (by
    intro x13 x14 x15 h
    refine j_iload o dX5_drawn_27 rfl ?_
    refine j_aload_n o dX5_drawn_29 rfl ?_
    refine j_getf o (g := 7) (slot := 0) (ci := 5) (v := .int (M 7 0)) rfl jin_X5 (by decide) rfl jf_X5_15 (fun _ => rfl) rfl dX5_drawn_30 ?_
    refine j_icmp_ge o (tgt := 78) dX5_drawn_33 (by decide) (fun c16 => ?_) (fun c16 => ?_)
    · replace h := h.1 c16
      refine j_iload_n o dX5_drawn_78 rfl ?_
      refine j_if_eq o (tgt := 87) dX5_drawn_79 (by decide) (fun c17 => ?_) (fun c17 => ?_)
      · replace h := h.1 c17
        refine j_iload o dX5_drawn_87 rfl ?_
        rw [hE]
        exact j_iret o dX5_drawn_89 ⟨_, rfl, rfl, rfl, rfl, h⟩
      · replace h := h.2 c17
        refine j_iload o dX5_drawn_82 rfl ?_
        refine j_goto o (tgt := 89) dX5_drawn_84 (by decide) ?_
        rw [hE]
        exact j_iret o dX5_drawn_89 ⟨_, rfl, rfl, rfl, rfl, h⟩
    · replace h := h.2 c16
      refine j_lload o dX5_drawn_36 rfl ?_
      refine j_callSl o (c_X5_stepped l P x13 M N _ h) dX5_drawn_38 jc_X5_33 jn_X5_stepped rfl rfl rfl rfl (fun r18 Mz19 Nz20 h => ?_)
      obtain ⟨rfl, rfl, h⟩ := h
      refine j_lstore o [(4, .long r18), (0, .ref (P.1 7)), (3, .int a2), (6, .int r10), (7, .int x14), (8, .int x15)] dX5_drawn_41 (by decide) rfl ?_
      refine j_lload o dX5_drawn_43 rfl ?_
      refine j_bipush o (v := 10) dX5_drawn_45 rfl ?_
      refine j_callSi o (c_X5_draw l P r18 10 M N _ h) dX5_drawn_47 jc_X5_41 jn_X5_draw rfl rfl rfl rfl (fun r21 Mz22 Nz23 h => ?_)
      obtain ⟨rfl, rfl, h⟩ := h
      refine j_aload_n o dX5_drawn_50 rfl ?_
      refine j_getf o (g := 7) (slot := 3) (ci := 5) (v := .ref (P.1 30)) rfl jin_X5 (by decide) rfl jf_X5_21 (fun _ => rfl) rfl dX5_drawn_51 ?_
      refine j_iload o dX5_drawn_54 rfl ?_
      obtain ⟨hb24, h⟩ := h
      refine j_aaldInts2 o (g := 30) (fun _ => rfl) hb24 dX5_drawn_56 ?_
      refine j_iload o dX5_drawn_57 rfl ?_
      obtain ⟨hb25, h⟩ := h
      obtain ⟨nnhb25, hchb25, hihb25⟩ := hb25
      refine j_iald o (g := 31 + r10.toNatClampNeg) (fun tA => LC_ia hchb25 tA _ _) hihb25 dX5_drawn_59 ?_
      replace h := h (fun (x26 : Int32) => J X P M N 0 0 E 9 72 [(0, .ref (P.1 7)), (3, .int a2), (4, .long r18), (6, .int r10), (7, .int x26), (8, .int x15)] []) (by
        intro x26 h
        refine j_iinc o (v := x15 + 1) [(8, .int (x15 + 1)), (0, .ref (P.1 7)), (3, .int a2), (4, .long r18), (6, .int r10), (7, .int x26)] dX5_drawn_72 rfl rfl (by decide) rfl ?_
        refine j_goto o (tgt := 27) dX5_drawn_75 (by decide) ?_
        exact j_pick [1, 2, 3, 4, 5, 0] rfl h)
      refine j_icmp_ge o (tgt := 72) dX5_drawn_60 (by decide) (fun c27 => ?_) (fun c27 => ?_)
      · replace h := h.1 c27
        exact j_pick [1, 2, 0, 3, 4, 5] rfl h
      · replace h := h.2 c27
        refine j_iload o dX5_drawn_63 rfl ?_
        refine j_iconst o (v := 1) dX5_drawn_65 rfl ?_
        refine j_iload o dX5_drawn_66 rfl ?_
        refine j_ishl o dX5_drawn_68 ?_
        refine j_ior o dX5_drawn_69 ?_
        refine j_istore o [(7, .int (x14 ||| ((1 : Int32) <<< (x15 &&& 31)))), (4, .long r18), (0, .ref (P.1 7)), (3, .int a2), (6, .int r10), (8, .int x15)] dX5_drawn_70 (by decide) rfl ?_
        exact j_pick [2, 3, 1, 4, 0, 5] rfl h)
  exact j_pick [4, 6, 3, 2, 1, 0] rfl h

abbrev rm_X6_added : Room := { frames := 0, cells := 0, slots := 0, locals := 0 }
def w_X6_added (P : jP)  (M : jM) (Q : Int32 → jM → Prop) : Prop :=
  ((M 9 0) < 10 → (
   vp_in (M 9 0) (10) ∧
   ∀ M3 : jM, M3 = upM (upM M 38 (M 9 0).toNatClampNeg 1) 9 0 (((upM M 38 (M 9 0).toNatClampNeg 1) 9 0) + 1) →
   Q ((upM M 38 (M 9 0).toNatClampNeg 1) 9 0) M3
  )) ∧ (¬ (M 9 0) < 10 → (
   Q (-1) M
  ))
set_option maxRecDepth 20000 in
theorem c_X6_added (l : Launch) (P : jP)  (M : jM) (N : jN) (Q : Int32 → jM → Prop) (h : w_X6_added P M Q) : jC l yX6_added cX6_added 1 (some .int) rm_X6_added LC [.ref (P.1 9)] P M N (jqi P (fun r M' N' => N = N' ∧ Q r M' )) := by
  refine jC_of (by decide +kernel) [(0, .ref (P.1 9))] (Nat.le_of_ble_eq_true rfl) rfl (fun X o => ?_)
  obtain ⟨E, hE⟩ : ∃ E, E = jE X rm_X6_added (jqi P (fun r M' N' => N = N' ∧ Q r M' )) := ⟨_, rfl⟩
  rw [← hE]
  unfold w_X6_added at h
  refine j_aload_n o dX6_added_0 rfl ?_
  refine j_getf o (g := 9) (slot := 0) (ci := 6) (v := .int (M 9 0)) rfl jin_X6 (by decide) rfl jf_X6_27 (fun _ => rfl) rfl dX6_added_1 ?_
  refine j_bipush o (v := 10) dX6_added_4 rfl ?_
  refine j_icmp_lt o (tgt := 11) dX6_added_6 (by decide) (fun c1 => ?_) (fun c1 => ?_)
  · replace h := h.1 c1
    refine j_aload_n o dX6_added_11 rfl ?_
    refine j_getf o (g := 9) (slot := 1) (ci := 6) (v := .ref (P.1 38)) rfl jin_X6 (by decide) rfl jf_X6_9 (fun _ => rfl) rfl dX6_added_12 ?_
    refine j_aload_n o dX6_added_15 rfl ?_
    refine j_getf o (g := 9) (slot := 0) (ci := 6) (v := .int (M 9 0)) rfl jin_X6 (by decide) rfl jf_X6_27 (fun _ => rfl) rfl dX6_added_16 ?_
    refine j_iconst o (v := 1) dX6_added_19 rfl ?_
    obtain ⟨hb2, h⟩ := h
    refine j_iast o (g := 38) (fun _ _ _ => rfl) hb2 dX6_added_20 ?_
    refine j_aload_n o dX6_added_21 rfl ?_
    refine j_dup o dX6_added_22 rfl ?_
    refine j_getf o (g := 9) (slot := 0) (ci := 6) (v := .int ((upM M 38 (M 9 0).toNatClampNeg 1) 9 0)) rfl jin_X6 (by decide) rfl jf_X6_27 (fun _ => rfl) rfl dX6_added_23 ?_
    refine j_dup_x1 o dX6_added_26 rfl rfl ?_
    refine j_iconst o (v := 1) dX6_added_27 rfl ?_
    refine j_iadd o dX6_added_28 ?_
    refine j_putf o (M1 := upM (upM M 38 (M 9 0).toNatClampNeg 1) 9 0 (((upM M 38 (M 9 0).toNatClampNeg 1) 9 0) + 1)) (N1 := N) (g := 9) (slot := 0) (ci := 6) (ty := .int) rfl jin_X6 tyX6_ok nmX6 (by decide) rfl rfl jf_X6_27 (by decide +kernel) rfl rfl (Nat.le_of_ble_eq_true rfl) (fun _ => rfl) (fun _ => rfl) (fun _ hj => upM_ne _ _ _ hj) (fun _ _ => rfl) dX6_added_29 ?_
    refine j_nameM (fun M3 hM3 => ?_)
    replace h := h M3 hM3
    rw [hE]
    exact j_iret o dX6_added_32 ⟨_, rfl, rfl, rfl, h⟩
  · replace h := h.2 c1
    refine j_iconst o (v := (-1)) dX6_added_9 rfl ?_
    rw [hE]
    exact j_iret o dX6_added_10 ⟨_, rfl, rfl, rfl, h⟩

abbrev rm_X6_setMinutes : Room := { frames := 0, cells := 0, slots := 0, locals := 0 }
def w_X6_setMinutes (P : jP) (a1 : Int32) (a2 : Int32) (M : jM) (Q : Int32 → jM → Prop) : Prop :=
  (a1 < 0 → (
   Q 0 M
  )) ∧ (¬ a1 < 0 → (
   ((M 9 0) ≤ a1 → (
    Q 0 M
   )) ∧ (¬ (M 9 0) ≤ a1 → (
    (a2 < 1 → (
     Q 0 M
    )) ∧ (¬ a2 < 1 → (
     (a2 ≤ 99 → (
      vp_in a1 (10) ∧
      Q 1 (upM M 38 a1.toNatClampNeg a2)
     )) ∧ (¬ a2 ≤ 99 → (
      Q 0 M
     ))
    ))
   ))
  ))
set_option maxRecDepth 20000 in
theorem c_X6_setMinutes (l : Launch) (P : jP) (a1 : Int32) (a2 : Int32) (M : jM) (N : jN) (Q : Int32 → jM → Prop) (h : w_X6_setMinutes P a1 a2 M Q) : jC l yX6_setMinutes cX6_setMinutes 3 (some .boolean) rm_X6_setMinutes LC [.ref (P.1 9), .int a1, .int a2] P M N (jqi P (fun r M' N' => N = N' ∧ Q r M' )) := by
  refine jC_of (by decide +kernel) [(0, .ref (P.1 9)), (1, .int a1), (2, .int a2)] (Nat.le_of_ble_eq_true rfl) rfl (fun X o => ?_)
  obtain ⟨E, hE⟩ : ∃ E, E = jE X rm_X6_setMinutes (jqi P (fun r M' N' => N = N' ∧ Q r M' )) := ⟨_, rfl⟩
  rw [← hE]
  unfold w_X6_setMinutes at h
  refine j_iload_n o dX6_setMinutes_0 rfl ?_
  refine j_if_lt o (tgt := 23) dX6_setMinutes_1 (by decide) (fun c1 => ?_) (fun c1 => ?_)
  · replace h := h.1 c1
    refine j_iconst o (v := 0) dX6_setMinutes_23 rfl ?_
    rw [hE]
    exact j_zret o rfl dX6_setMinutes_24 ⟨_, rfl, rfl, rfl, h⟩
  · replace h := h.2 c1
    refine j_iload_n o dX6_setMinutes_4 rfl ?_
    refine j_aload_n o dX6_setMinutes_5 rfl ?_
    refine j_getf o (g := 9) (slot := 0) (ci := 6) (v := .int (M 9 0)) rfl jin_X6 (by decide) rfl jf_X6_27 (fun _ => rfl) rfl dX6_setMinutes_6 ?_
    refine j_icmp_ge o (tgt := 23) dX6_setMinutes_9 (by decide) (fun c2 => ?_) (fun c2 => ?_)
    · replace h := h.1 c2
      refine j_iconst o (v := 0) dX6_setMinutes_23 rfl ?_
      rw [hE]
      exact j_zret o rfl dX6_setMinutes_24 ⟨_, rfl, rfl, rfl, h⟩
    · replace h := h.2 c2
      refine j_iload_n o dX6_setMinutes_12 rfl ?_
      refine j_iconst o (v := 1) dX6_setMinutes_13 rfl ?_
      refine j_icmp_lt o (tgt := 23) dX6_setMinutes_14 (by decide) (fun c3 => ?_) (fun c3 => ?_)
      · replace h := h.1 c3
        refine j_iconst o (v := 0) dX6_setMinutes_23 rfl ?_
        rw [hE]
        exact j_zret o rfl dX6_setMinutes_24 ⟨_, rfl, rfl, rfl, h⟩
      · replace h := h.2 c3
        refine j_iload_n o dX6_setMinutes_17 rfl ?_
        refine j_bipush o (v := 99) dX6_setMinutes_18 rfl ?_
        refine j_icmp_le o (tgt := 25) dX6_setMinutes_20 (by decide) (fun c4 => ?_) (fun c4 => ?_)
        · replace h := h.1 c4
          refine j_aload_n o dX6_setMinutes_25 rfl ?_
          refine j_getf o (g := 9) (slot := 1) (ci := 6) (v := .ref (P.1 38)) rfl jin_X6 (by decide) rfl jf_X6_9 (fun _ => rfl) rfl dX6_setMinutes_26 ?_
          refine j_iload_n o dX6_setMinutes_29 rfl ?_
          refine j_iload_n o dX6_setMinutes_30 rfl ?_
          obtain ⟨hb5, h⟩ := h
          refine j_iast o (g := 38) (fun _ _ _ => rfl) hb5 dX6_setMinutes_31 ?_
          refine j_iconst o (v := 1) dX6_setMinutes_32 rfl ?_
          rw [hE]
          exact j_zret o rfl dX6_setMinutes_33 ⟨_, rfl, rfl, rfl, h⟩
        · replace h := h.2 c4
          refine j_iconst o (v := 0) dX6_setMinutes_23 rfl ?_
          rw [hE]
          exact j_zret o rfl dX6_setMinutes_24 ⟨_, rfl, rfl, rfl, h⟩

abbrev rm_X6_isSet : Room := { frames := 0, cells := 0, slots := 0, locals := 0 }
def w_X6_isSet (P : jP) (a1 : Int32) (M : jM) (Q : Int32 → Prop) : Prop :=
  (a1 < 0 → (
   Q 0
  )) ∧ (¬ a1 < 0 → (
   (((1 : Int32) <<< ((M 9 0) &&& 31)) ≤ a1 → (
    Q 0
   )) ∧ (¬ ((1 : Int32) <<< ((M 9 0) &&& 31)) ≤ a1 → (
    Q 1
   ))
  ))
set_option maxRecDepth 20000 in
theorem c_X6_isSet (l : Launch) (P : jP) (a1 : Int32) (M : jM) (N : jN) (Q : Int32 → Prop) (h : w_X6_isSet P a1 M Q) : jC l yX6_isSet cX6_isSet 2 (some .boolean) rm_X6_isSet LC [.ref (P.1 9), .int a1] P M N (jqi P (fun r M' N' => M = M' ∧ N = N' ∧ Q r )) := by
  refine jC_of (by decide +kernel) [(0, .ref (P.1 9)), (1, .int a1)] (Nat.le_of_ble_eq_true rfl) rfl (fun X o => ?_)
  obtain ⟨E, hE⟩ : ∃ E, E = jE X rm_X6_isSet (jqi P (fun r M' N' => M = M' ∧ N = N' ∧ Q r )) := ⟨_, rfl⟩
  rw [← hE]
  unfold w_X6_isSet at h
  refine j_iload_n o dX6_isSet_0 rfl ?_
  refine j_if_lt o (tgt := 18) dX6_isSet_1 (by decide) (fun c1 => ?_) (fun c1 => ?_)
  · replace h := h.1 c1
    refine j_iconst o (v := 0) dX6_isSet_18 rfl ?_
    rw [hE]
    exact j_zret o rfl dX6_isSet_19 ⟨_, rfl, rfl, rfl, rfl, h⟩
  · replace h := h.2 c1
    refine j_iload_n o dX6_isSet_4 rfl ?_
    refine j_iconst o (v := 1) dX6_isSet_5 rfl ?_
    refine j_aload_n o dX6_isSet_6 rfl ?_
    refine j_getf o (g := 9) (slot := 0) (ci := 6) (v := .int (M 9 0)) rfl jin_X6 (by decide) rfl jf_X6_27 (fun _ => rfl) rfl dX6_isSet_7 ?_
    refine j_ishl o dX6_isSet_10 ?_
    refine j_icmp_ge o (tgt := 18) dX6_isSet_11 (by decide) (fun c2 => ?_) (fun c2 => ?_)
    · replace h := h.1 c2
      refine j_iconst o (v := 0) dX6_isSet_18 rfl ?_
      rw [hE]
      exact j_zret o rfl dX6_isSet_19 ⟨_, rfl, rfl, rfl, rfl, h⟩
    · replace h := h.2 c2
      refine j_iconst o (v := 1) dX6_isSet_14 rfl ?_
      refine j_goto o (tgt := 19) dX6_isSet_15 (by decide) ?_
      rw [hE]
      exact j_zret o rfl dX6_isSet_19 ⟨_, rfl, rfl, rfl, rfl, h⟩

abbrev rm_X11_isAhead : Room := { frames := 1, cells := 0, slots := 0, locals := 20 }
def w_X11_isAhead (P : jP) (a1 : Int32) (a2 : Int32) (Q : Int32 → Prop) : Prop :=
  (¬ a2 = (-1) → (
   w_J6_bitCount_0f7a4 P a1 (fun r2 =>
   w_J6_bitCount_0f7a4 P a2 (fun r5 =>
   ((r2 - r5) < 0 → (
    Q 1
   )) ∧ (¬ (r2 - r5) < 0 → (
    (¬ (r2 - r5) = 0 → (
     Q 0
    )) ∧ ((r2 - r5) = 0 → (
     (((a1 &&& (a1 ^^^ a2)) &&& (-(a1 ^^^ a2))) = 0 → (
      Q 0
     )) ∧ (¬ ((a1 &&& (a1 ^^^ a2)) &&& (-(a1 ^^^ a2))) = 0 → (
      Q 1
     ))
    ))
   ))))
  )) ∧ (a2 = (-1) → (
   Q 1
  ))
set_option maxRecDepth 20000 in
theorem c_X11_isAhead (l : Launch) (P : jP) (a1 : Int32) (a2 : Int32) (M : jM) (N : jN) (Q : Int32 → Prop) (h : w_X11_isAhead P a1 a2 Q) : jC l yX11_isAhead cX11_isAhead 4 (some .boolean) rm_X11_isAhead LC [.int a1, .int a2] P M N (jqi P (fun r M' N' => M = M' ∧ N = N' ∧ Q r )) := by
  refine jC_of (by decide +kernel) [(0, .int a1), (1, .int a2)] (Nat.le_of_ble_eq_true rfl) rfl (fun X o => ?_)
  obtain ⟨E, hE⟩ : ∃ E, E = jE X rm_X11_isAhead (jqi P (fun r M' N' => M = M' ∧ N = N' ∧ Q r )) := ⟨_, rfl⟩
  rw [← hE]
  unfold w_X11_isAhead at h
  refine j_iload_n o dX11_isAhead_0 rfl ?_
  refine j_iconst o (v := (-1)) dX11_isAhead_1 rfl ?_
  refine j_icmp_ne o (tgt := 7) dX11_isAhead_2 (by decide) (fun c1 => ?_) (fun c1 => ?_)
  · replace h := h.1 c1
    refine j_iload_n o dX11_isAhead_7 rfl ?_
    refine j_callSi o (c_J6_bitCount_0f7a4 l P a1 M N _ h) dX11_isAhead_8 jc_X11_389 jn_J6_bitCount_0f7a4 rfl rfl rfl rfl (fun r2 Mz3 Nz4 h => ?_)
    obtain ⟨rfl, rfl, h⟩ := h
    refine j_iload_n o dX11_isAhead_11 rfl ?_
    refine j_callSi o (c_J6_bitCount_0f7a4 l P a2 M N _ h) dX11_isAhead_12 jc_X11_389 jn_J6_bitCount_0f7a4 rfl rfl rfl rfl (fun r5 Mz6 Nz7 h => ?_)
    obtain ⟨rfl, rfl, h⟩ := h
    refine j_isub o dX11_isAhead_15 ?_
    refine j_istore_n o [(2, .int (r2 - r5)), (0, .int a1), (1, .int a2)] dX11_isAhead_16 (by decide) rfl ?_
    refine j_iload_n o dX11_isAhead_17 rfl ?_
    refine j_iload_n o dX11_isAhead_18 rfl ?_
    refine j_ixor o dX11_isAhead_19 ?_
    refine j_istore_n o [(3, .int (a1 ^^^ a2)), (2, .int (r2 - r5)), (0, .int a1), (1, .int a2)] dX11_isAhead_20 (by decide) rfl ?_
    refine j_iload_n o dX11_isAhead_21 rfl ?_
    refine j_if_lt o (tgt := 38) dX11_isAhead_22 (by decide) (fun c8 => ?_) (fun c8 => ?_)
    · replace h := h.1 c8
      refine j_iconst o (v := 1) dX11_isAhead_38 rfl ?_
      refine j_goto o (tgt := 43) dX11_isAhead_39 (by decide) ?_
      rw [hE]
      exact j_zret o rfl dX11_isAhead_43 ⟨_, rfl, rfl, rfl, rfl, h⟩
    · replace h := h.2 c8
      refine j_iload_n o dX11_isAhead_25 rfl ?_
      refine j_if_ne o (tgt := 42) dX11_isAhead_26 (by decide) (fun c9 => ?_) (fun c9 => ?_)
      · replace h := h.1 c9
        refine j_iconst o (v := 0) dX11_isAhead_42 rfl ?_
        rw [hE]
        exact j_zret o rfl dX11_isAhead_43 ⟨_, rfl, rfl, rfl, rfl, h⟩
      · replace h := h.2 c9
        refine j_iload_n o dX11_isAhead_29 rfl ?_
        refine j_iload_n o dX11_isAhead_30 rfl ?_
        refine j_iand o dX11_isAhead_31 ?_
        refine j_iload_n o dX11_isAhead_32 rfl ?_
        refine j_ineg o dX11_isAhead_33 ?_
        refine j_iand o dX11_isAhead_34 ?_
        refine j_if_eq o (tgt := 42) dX11_isAhead_35 (by decide) (fun c10 => ?_) (fun c10 => ?_)
        · replace h := h.1 c10
          refine j_iconst o (v := 0) dX11_isAhead_42 rfl ?_
          rw [hE]
          exact j_zret o rfl dX11_isAhead_43 ⟨_, rfl, rfl, rfl, rfl, h⟩
        · replace h := h.2 c10
          refine j_iconst o (v := 1) dX11_isAhead_38 rfl ?_
          refine j_goto o (tgt := 43) dX11_isAhead_39 (by decide) ?_
          rw [hE]
          exact j_zret o rfl dX11_isAhead_43 ⟨_, rfl, rfl, rfl, rfl, h⟩
  · replace h := h.2 c1
    refine j_iconst o (v := 1) dX11_isAhead_5 rfl ?_
    rw [hE]
    exact j_zret o rfl dX11_isAhead_6 ⟨_, rfl, rfl, rfl, rfl, h⟩

abbrev rm_X6_isToldBy : Room := { frames := 0, cells := 0, slots := 0, locals := 0 }
def w_X6_isToldBy (P : jP) (a1 : Int32) (a2 : Nat) (M : jM) (Q : Int32 → jM → Prop) : Prop :=
  ∀ R12 : Int32 → jM → Prop, (∀ (x1 : Int32) (M2 : jM), (
   ((Int32.ofNat (P.2.2 1)) ≤ x1 → (
    Q 1 M2
   )) ∧ (¬ (Int32.ofNat (P.2.2 1)) ≤ x1 → (
    jin P a2 x1 ∧
    ∀ y5 : Int32, y5 = ((M2 9 6) <<< (3 &&& 31)) ||| ((M2 a2 x1.toNatClampNeg) + 1) →
    vp_in x1 (P.2.2 1) ∧
    vp_in ((M2 39 x1.toNatClampNeg) &&& a1) (1024) ∧
    ∀ R87 : jM → Prop, (∀ (M8 : jM), (
     R12 (x1 + 1) M8
    ) → R87 M8) →
    (((M2 40 ((M2 39 x1.toNatClampNeg) &&& a1).toNatClampNeg) >>> (3 &&& 31)) = (M2 9 6) → (
     vp_in ((M2 39 x1.toNatClampNeg) &&& a1) (1024) ∧
     ((M2 40 ((M2 39 x1.toNatClampNeg) &&& a1).toNatClampNeg) = y5 → (
      R87 M2
     )) ∧ (¬ (M2 40 ((M2 39 x1.toNatClampNeg) &&& a1).toNatClampNeg) = y5 → (
      Q 0 M2
     ))
    )) ∧ (¬ ((M2 40 ((M2 39 x1.toNatClampNeg) &&& a1).toNatClampNeg) >>> (3 &&& 31)) = (M2 9 6) → (
     vp_in ((M2 39 x1.toNatClampNeg) &&& a1) (1024) ∧
     ∀ M13 : jM, M13 = upM M2 40 ((M2 39 x1.toNatClampNeg) &&& a1).toNatClampNeg y5 →
     R87 M13
    ))
   ))
  ) → R12 x1 M2) →
  R12 0 (upM M 9 6 ((M 9 6) + 1))
set_option maxRecDepth 20000 in
theorem c_X6_isToldBy (l : Launch) (P : jP) (a1 : Int32) (a2 : Nat) (M : jM) (N : jN) (Q : Int32 → jM → Prop) (h : w_X6_isToldBy P a1 a2 M Q) : jC l yX6_isToldBy cX6_isToldBy 6 (some .boolean) rm_X6_isToldBy LC [.ref (P.1 9), .int a1, .ref (P.1 a2)] P M N (jqi P (fun r M' N' => N = N' ∧ Q r M' )) := by
  refine jC_of (by decide +kernel) [(0, .ref (P.1 9)), (1, .int a1), (2, .ref (P.1 a2))] (Nat.le_of_ble_eq_true rfl) rfl (fun X o => ?_)
  obtain ⟨E, hE⟩ : ∃ E, E = jE X rm_X6_isToldBy (jqi P (fun r M' N' => N = N' ∧ Q r M' )) := ⟨_, rfl⟩
  rw [← hE]
  unfold w_X6_isToldBy at h
  refine j_aload_n o dX6_isToldBy_0 rfl ?_
  refine j_dup o dX6_isToldBy_1 rfl ?_
  refine j_getf o (g := 9) (slot := 6) (ci := 6) (v := .int (M 9 6)) rfl jin_X6 (by decide) rfl jf_X6_43 (fun _ => rfl) rfl dX6_isToldBy_2 ?_
  refine j_iconst o (v := 1) dX6_isToldBy_5 rfl ?_
  refine j_iadd o dX6_isToldBy_6 ?_
  refine j_putf o (M1 := upM M 9 6 ((M 9 6) + 1)) (N1 := N) (g := 9) (slot := 6) (ci := 6) (ty := .int) rfl jin_X6 tyX6_ok nmX6 (by decide) rfl rfl jf_X6_43 (by decide +kernel) rfl rfl (Nat.le_of_ble_eq_true rfl) (fun _ => rfl) (fun _ => rfl) (fun _ hj => upM_ne _ _ _ hj) (fun _ _ => rfl) dX6_isToldBy_7 ?_
  refine j_iconst o (v := 0) dX6_isToldBy_10 rfl ?_
  refine j_istore_n o [(3, .int 0), (0, .ref (P.1 9)), (1, .int a1), (2, .ref (P.1 a2))] dX6_isToldBy_11 (by decide) rfl ?_
  replace h := h (fun (x1 : Int32) (M2 : jM) => J X P M2 N 0 0 E 6 12 [(0, .ref (P.1 9)), (1, .int a1), (2, .ref (P.1 a2)), (3, .int x1)] []) (by
    intro x1 M2 h
    refine j_iload_n o dX6_isToldBy_12 rfl ?_
    refine j_aload_n o dX6_isToldBy_13 rfl ?_
    refine j_getf o (g := 9) (slot := 2) (ci := 6) (v := .ref (P.1 39)) rfl jin_X6 (by decide) rfl jf_X6_24 (fun _ => rfl) rfl dX6_isToldBy_14 ?_
    refine j_alen o (g := 39) (t0 := 0) (fun _ => rfl) (fun _ => rfl) dX6_isToldBy_17 ?_
    refine j_icmp_ge o (tgt := 93) dX6_isToldBy_18 (by decide) (fun c3 => ?_) (fun c3 => ?_)
    · replace h := h.1 c3
      refine j_iconst o (v := 1) dX6_isToldBy_93 rfl ?_
      rw [hE]
      exact j_zret o rfl dX6_isToldBy_94 ⟨_, rfl, rfl, rfl, h⟩
    · replace h := h.2 c3
      refine j_aload_n o dX6_isToldBy_21 rfl ?_
      refine j_getf o (g := 9) (slot := 6) (ci := 6) (v := .int (M2 9 6)) rfl jin_X6 (by decide) rfl jf_X6_43 (fun _ => rfl) rfl dX6_isToldBy_22 ?_
      refine j_iconst o (v := 3) dX6_isToldBy_25 rfl ?_
      refine j_ishl o dX6_isToldBy_26 ?_
      refine j_aload_n o dX6_isToldBy_27 rfl ?_
      refine j_iload_n o dX6_isToldBy_28 rfl ?_
      obtain ⟨hb4, h⟩ := h
      obtain ⟨nnhb4, hchb4, hihb4⟩ := hb4
      refine j_iald o (g := a2) (fun tA => LC_ia hchb4 tA _ _) hihb4 dX6_isToldBy_29 ?_
      refine j_iconst o (v := 1) dX6_isToldBy_30 rfl ?_
      refine j_iadd o dX6_isToldBy_31 ?_
      refine j_ior o dX6_isToldBy_32 ?_
      refine j_topi (fun y5 hy5 => ?_)
      replace h := h y5 hy5
      refine j_istore o [(4, .int y5), (0, .ref (P.1 9)), (1, .int a1), (2, .ref (P.1 a2)), (3, .int x1)] dX6_isToldBy_33 (by decide) rfl ?_
      refine j_aload_n o dX6_isToldBy_35 rfl ?_
      refine j_getf o (g := 9) (slot := 2) (ci := 6) (v := .ref (P.1 39)) rfl jin_X6 (by decide) rfl jf_X6_24 (fun _ => rfl) rfl dX6_isToldBy_36 ?_
      refine j_iload_n o dX6_isToldBy_39 rfl ?_
      obtain ⟨hb6, h⟩ := h
      refine j_iald o (g := 39) (fun _ => rfl) hb6 dX6_isToldBy_40 ?_
      refine j_iload_n o dX6_isToldBy_41 rfl ?_
      refine j_iand o dX6_isToldBy_42 ?_
      refine j_istore o [(5, .int ((M2 39 x1.toNatClampNeg) &&& a1)), (4, .int y5), (0, .ref (P.1 9)), (1, .int a1), (2, .ref (P.1 a2)), (3, .int x1)] dX6_isToldBy_43 (by decide) rfl ?_
      refine j_aload_n o dX6_isToldBy_45 rfl ?_
      refine j_getf o (g := 9) (slot := 3) (ci := 6) (v := .ref (P.1 40)) rfl jin_X6 (by decide) rfl jf_X6_15 (fun _ => rfl) rfl dX6_isToldBy_46 ?_
      refine j_iload o dX6_isToldBy_49 rfl ?_
      obtain ⟨hb7, h⟩ := h
      refine j_iald o (g := 40) (fun _ => rfl) hb7 dX6_isToldBy_51 ?_
      refine j_iconst o (v := 3) dX6_isToldBy_52 rfl ?_
      refine j_ishr o dX6_isToldBy_53 ?_
      refine j_aload_n o dX6_isToldBy_54 rfl ?_
      refine j_getf o (g := 9) (slot := 6) (ci := 6) (v := .int (M2 9 6)) rfl jin_X6 (by decide) rfl jf_X6_43 (fun _ => rfl) rfl dX6_isToldBy_55 ?_
      replace h := h (fun (M8 : jM) => J X P M8 N 0 0 E 6 87 [(0, .ref (P.1 9)), (1, .int a1), (2, .ref (P.1 a2)), (3, .int x1)] []) (by
        intro M8 h
        refine j_iinc o (v := x1 + 1) [(3, .int (x1 + 1)), (0, .ref (P.1 9)), (1, .int a1), (2, .ref (P.1 a2))] dX6_isToldBy_87 rfl rfl (by decide) rfl ?_
        refine j_goto o (tgt := 12) dX6_isToldBy_90 (by decide) ?_
        exact j_pick [1, 2, 3, 0] rfl h)
      refine j_icmp_eq o (tgt := 73) dX6_isToldBy_58 (by decide) (fun c9 => ?_) (fun c9 => ?_)
      · replace h := h.1 c9
        refine j_aload_n o dX6_isToldBy_73 rfl ?_
        refine j_getf o (g := 9) (slot := 3) (ci := 6) (v := .ref (P.1 40)) rfl jin_X6 (by decide) rfl jf_X6_15 (fun _ => rfl) rfl dX6_isToldBy_74 ?_
        refine j_iload o dX6_isToldBy_77 rfl ?_
        obtain ⟨hb10, h⟩ := h
        refine j_iald o (g := 40) (fun _ => rfl) hb10 dX6_isToldBy_79 ?_
        refine j_iload o dX6_isToldBy_80 rfl ?_
        refine j_icmp_eq o (tgt := 87) dX6_isToldBy_82 (by decide) (fun c11 => ?_) (fun c11 => ?_)
        · replace h := h.1 c11
          exact j_pick [2, 3, 4, 5] rfl h
        · replace h := h.2 c11
          refine j_iconst o (v := 0) dX6_isToldBy_85 rfl ?_
          rw [hE]
          exact j_zret o rfl dX6_isToldBy_86 ⟨_, rfl, rfl, rfl, h⟩
      · replace h := h.2 c9
        refine j_aload_n o dX6_isToldBy_61 rfl ?_
        refine j_getf o (g := 9) (slot := 3) (ci := 6) (v := .ref (P.1 40)) rfl jin_X6 (by decide) rfl jf_X6_15 (fun _ => rfl) rfl dX6_isToldBy_62 ?_
        refine j_iload o dX6_isToldBy_65 rfl ?_
        refine j_iload o dX6_isToldBy_67 rfl ?_
        obtain ⟨hb12, h⟩ := h
        refine j_iast o (g := 40) (fun _ _ _ => rfl) hb12 dX6_isToldBy_69 ?_
        refine j_nameM (fun M13 hM13 => ?_)
        replace h := h M13 hM13
        refine j_goto o (tgt := 87) dX6_isToldBy_70 (by decide) ?_
        exact j_pick [2, 3, 4, 5] rfl h)
  exact j_pick [1, 2, 3, 0] rfl h

abbrev rm_X6_minutesOf : Room := { frames := 0, cells := 0, slots := 0, locals := 0 }
def w_X6_minutesOf (P : jP) (a1 : Int32) (M : jM) (Q : Int32 → Prop) : Prop :=
  ∀ R4 : Int32 → Int32 → Prop, (∀ (x1 : Int32) (x2 : Int32), (
   ((M 9 0) ≤ x2 → (
    Q x1
   )) ∧ (¬ (M 9 0) ≤ x2 → (
    ∀ R29 : Int32 → Prop, (∀ (x4 : Int32), (
     R4 x4 (x2 + 1)
    ) → R29 x4) →
    (((a1 >>> (x2 &&& 31)) &&& 1) = 0 → (
     R29 x1
    )) ∧ (¬ ((a1 >>> (x2 &&& 31)) &&& 1) = 0 → (
     vp_in x2 (10) ∧
     R29 (x1 + (M 38 x2.toNatClampNeg))
    ))
   ))
  ) → R4 x1 x2) →
  R4 0 0
set_option maxRecDepth 20000 in
theorem c_X6_minutesOf (l : Launch) (P : jP) (a1 : Int32) (M : jM) (N : jN) (Q : Int32 → Prop) (h : w_X6_minutesOf P a1 M Q) : jC l yX6_minutesOf cX6_minutesOf 4 (some .int) rm_X6_minutesOf LC [.ref (P.1 9), .int a1] P M N (jqi P (fun r M' N' => M = M' ∧ N = N' ∧ Q r )) := by
  refine jC_of (by decide +kernel) [(0, .ref (P.1 9)), (1, .int a1)] (Nat.le_of_ble_eq_true rfl) rfl (fun X o => ?_)
  obtain ⟨E, hE⟩ : ∃ E, E = jE X rm_X6_minutesOf (jqi P (fun r M' N' => M = M' ∧ N = N' ∧ Q r )) := ⟨_, rfl⟩
  rw [← hE]
  unfold w_X6_minutesOf at h
  refine j_iconst o (v := 0) dX6_minutesOf_0 rfl ?_
  refine j_istore_n o [(2, .int 0), (0, .ref (P.1 9)), (1, .int a1)] dX6_minutesOf_1 (by decide) rfl ?_
  refine j_iconst o (v := 0) dX6_minutesOf_2 rfl ?_
  refine j_istore_n o [(3, .int 0), (2, .int 0), (0, .ref (P.1 9)), (1, .int a1)] dX6_minutesOf_3 (by decide) rfl ?_
  replace h := h (fun (x1 : Int32) (x2 : Int32) => J X P M N 0 0 E 4 4 [(0, .ref (P.1 9)), (1, .int a1), (2, .int x1), (3, .int x2)] []) (by
    intro x1 x2 h
    refine j_iload_n o dX6_minutesOf_4 rfl ?_
    refine j_aload_n o dX6_minutesOf_5 rfl ?_
    refine j_getf o (g := 9) (slot := 0) (ci := 6) (v := .int (M 9 0)) rfl jin_X6 (by decide) rfl jf_X6_27 (fun _ => rfl) rfl dX6_minutesOf_6 ?_
    refine j_icmp_ge o (tgt := 35) dX6_minutesOf_9 (by decide) (fun c3 => ?_) (fun c3 => ?_)
    · replace h := h.1 c3
      refine j_iload_n o dX6_minutesOf_35 rfl ?_
      rw [hE]
      exact j_iret o dX6_minutesOf_36 ⟨_, rfl, rfl, rfl, rfl, h⟩
    · replace h := h.2 c3
      refine j_iload_n o dX6_minutesOf_12 rfl ?_
      refine j_iload_n o dX6_minutesOf_13 rfl ?_
      refine j_ishr o dX6_minutesOf_14 ?_
      refine j_iconst o (v := 1) dX6_minutesOf_15 rfl ?_
      refine j_iand o dX6_minutesOf_16 ?_
      replace h := h (fun (x4 : Int32) => J X P M N 0 0 E 4 29 [(0, .ref (P.1 9)), (1, .int a1), (2, .int x4), (3, .int x2)] []) (by
        intro x4 h
        refine j_iinc o (v := x2 + 1) [(3, .int (x2 + 1)), (0, .ref (P.1 9)), (1, .int a1), (2, .int x4)] dX6_minutesOf_29 rfl rfl (by decide) rfl ?_
        refine j_goto o (tgt := 4) dX6_minutesOf_32 (by decide) ?_
        exact j_pick [1, 2, 3, 0] rfl h)
      refine j_if_eq o (tgt := 29) dX6_minutesOf_17 (by decide) (fun c5 => ?_) (fun c5 => ?_)
      · replace h := h.1 c5
        exact j_pick [0, 1, 2, 3] rfl h
      · replace h := h.2 c5
        refine j_iload_n o dX6_minutesOf_20 rfl ?_
        refine j_aload_n o dX6_minutesOf_21 rfl ?_
        refine j_getf o (g := 9) (slot := 1) (ci := 6) (v := .ref (P.1 38)) rfl jin_X6 (by decide) rfl jf_X6_9 (fun _ => rfl) rfl dX6_minutesOf_22 ?_
        refine j_iload_n o dX6_minutesOf_25 rfl ?_
        obtain ⟨hb6, h⟩ := h
        refine j_iald o (g := 38) (fun _ => rfl) hb6 dX6_minutesOf_26 ?_
        refine j_iadd o dX6_minutesOf_27 ?_
        refine j_istore_n o [(2, .int (x1 + (M 38 x2.toNatClampNeg))), (0, .ref (P.1 9)), (1, .int a1), (3, .int x2)] dX6_minutesOf_28 (by decide) rfl ?_
        exact j_pick [1, 2, 0, 3] rfl h)
  exact j_pick [2, 3, 1, 0] rfl h

abbrev rm_X6_cheapestThatTells : Room := { frames := 2, cells := 0, slots := 0, locals := 43 }
def w_X6_cheapestThatTells (P : jP) (a1 : Nat) (M : jM) (Q : Int32 → jM → Prop) : Prop :=
  ∀ R7 : Int32 → Int32 → Int32 → jM → Prop, (∀ (x1 : Int32) (x2 : Int32) (x3 : Int32) (M4 : jM), (
   (((1 : Int32) <<< ((M4 9 0) &&& 31)) ≤ x3 → (
    Q x1 M4
   )) ∧ (¬ ((1 : Int32) <<< ((M4 9 0) &&& 31)) ≤ x3 → (
    w_X6_minutesOf P x3 M4 (fun r6 =>
    ∀ R57 : Int32 → Prop, (∀ (x9 : Int32), (
     ∀ R80 : Int32 → Int32 → jM → Prop, (∀ (x10 : Int32) (x11 : Int32) (M12 : jM), (
      R7 x10 x11 (x3 + 1) M12
     ) → R80 x10 x11 M12) →
     (x9 = 0 → (
      R80 x1 x2 M4
     )) ∧ (¬ x9 = 0 → (
      w_X6_isToldBy P x3 a1 M4 (fun r14 M15 =>
      (r14 = 0 → (
       R80 x1 x2 M15
      )) ∧ (¬ r14 = 0 → (
       R80 x3 r6 M15
      )))
     ))
    ) → R57 x9) →
    (x1 = (-1) → (
     R57 1
    )) ∧ (¬ x1 = (-1) → (
     (r6 < x2 → (
      R57 1
     )) ∧ (¬ r6 < x2 → (
      (¬ r6 = x2 → (
       R57 0
      )) ∧ (r6 = x2 → (
       w_X11_isAhead P x3 x1 (fun r21 =>
       (r21 = 0 → (
        R57 0
       )) ∧ (¬ r21 = 0 → (
        R57 1
       )))
      ))
     ))
    )))
   ))
  ) → R7 x1 x2 x3 M4) →
  R7 (-1) 0 0 M
set_option maxRecDepth 20000 in
theorem c_X6_cheapestThatTells (l : Launch) (P : jP) (a1 : Nat) (M : jM) (N : jN) (Q : Int32 → jM → Prop) (h : w_X6_cheapestThatTells P a1 M Q) : jC l yX6_cheapestThatTells cX6_cheapestThatTells 7 (some .int) rm_X6_cheapestThatTells LC [.ref (P.1 9), .ref (P.1 a1)] P M N (jqi P (fun r M' N' => N = N' ∧ Q r M' )) := by
  refine jC_of (by decide +kernel) [(0, .ref (P.1 9)), (1, .ref (P.1 a1))] (Nat.le_of_ble_eq_true rfl) rfl (fun X o => ?_)
  obtain ⟨E, hE⟩ : ∃ E, E = jE X rm_X6_cheapestThatTells (jqi P (fun r M' N' => N = N' ∧ Q r M' )) := ⟨_, rfl⟩
  rw [← hE]
  unfold w_X6_cheapestThatTells at h
  refine j_iconst o (v := (-1)) dX6_cheapestThatTells_0 rfl ?_
  refine j_istore_n o [(2, .int (-1)), (0, .ref (P.1 9)), (1, .ref (P.1 a1))] dX6_cheapestThatTells_1 (by decide) rfl ?_
  refine j_iconst o (v := 0) dX6_cheapestThatTells_2 rfl ?_
  refine j_istore_n o [(3, .int 0), (2, .int (-1)), (0, .ref (P.1 9)), (1, .ref (P.1 a1))] dX6_cheapestThatTells_3 (by decide) rfl ?_
  refine j_iconst o (v := 0) dX6_cheapestThatTells_4 rfl ?_
  refine j_istore o [(4, .int 0), (3, .int 0), (2, .int (-1)), (0, .ref (P.1 9)), (1, .ref (P.1 a1))] dX6_cheapestThatTells_5 (by decide) rfl ?_
  replace h := h (fun (x1 : Int32) (x2 : Int32) (x3 : Int32) (M4 : jM) => J X P M4 N 0 0 E 7 7 [(0, .ref (P.1 9)), (1, .ref (P.1 a1)), (2, .int x1), (3, .int x2), (4, .int x3)] []) (by
    intro x1 x2 x3 M4 h
    refine j_iload o dX6_cheapestThatTells_7 rfl ?_
    refine j_iconst o (v := 1) dX6_cheapestThatTells_9 rfl ?_
    refine j_aload_n o dX6_cheapestThatTells_10 rfl ?_
    refine j_getf o (g := 9) (slot := 0) (ci := 6) (v := .int (M4 9 0)) rfl jin_X6 (by decide) rfl jf_X6_27 (fun _ => rfl) rfl dX6_cheapestThatTells_11 ?_
    refine j_ishl o dX6_cheapestThatTells_14 ?_
    refine j_icmp_ge o (tgt := 86) dX6_cheapestThatTells_15 (by decide) (fun c5 => ?_) (fun c5 => ?_)
    · replace h := h.1 c5
      refine j_iload_n o dX6_cheapestThatTells_86 rfl ?_
      rw [hE]
      exact j_iret o dX6_cheapestThatTells_87 ⟨_, rfl, rfl, rfl, h⟩
    · replace h := h.2 c5
      refine j_aload_n o dX6_cheapestThatTells_18 rfl ?_
      refine j_iload o dX6_cheapestThatTells_19 rfl ?_
      refine j_callVi (g := 9) (ci := 6) o (c_X6_minutesOf l P x3 M4 N _ h) dX6_cheapestThatTells_21 jc_X6_31 jn_X6_minutesOf rfl rfl rfl (fun _ => rfl) rfl rfl (fun r6 Mz7 Nz8 h => ?_)
      obtain ⟨rfl, rfl, h⟩ := h
      refine j_istore o [(5, .int r6), (0, .ref (P.1 9)), (1, .ref (P.1 a1)), (2, .int x1), (3, .int x2), (4, .int x3)] dX6_cheapestThatTells_24 (by decide) rfl ?_
      refine j_iload_n o dX6_cheapestThatTells_26 rfl ?_
      refine j_iconst o (v := (-1)) dX6_cheapestThatTells_27 rfl ?_
      replace h := h (fun (x9 : Int32) => J X P M4 N 0 0 E 7 57 [(0, .ref (P.1 9)), (1, .ref (P.1 a1)), (2, .int x1), (3, .int x2), (4, .int x3), (5, .int r6)] [.int x9]) (by
        intro x9 h
        refine j_istore o [(6, .int x9), (0, .ref (P.1 9)), (1, .ref (P.1 a1)), (2, .int x1), (3, .int x2), (4, .int x3), (5, .int r6)] dX6_cheapestThatTells_57 (by decide) rfl ?_
        refine j_iload o dX6_cheapestThatTells_59 rfl ?_
        replace h := h (fun (x10 : Int32) (x11 : Int32) (M12 : jM) => J X P M12 N 0 0 E 7 80 [(0, .ref (P.1 9)), (1, .ref (P.1 a1)), (2, .int x10), (3, .int x11), (4, .int x3)] []) (by
          intro x10 x11 M12 h
          refine j_iinc o (v := x3 + 1) [(4, .int (x3 + 1)), (0, .ref (P.1 9)), (1, .ref (P.1 a1)), (2, .int x10), (3, .int x11)] dX6_cheapestThatTells_80 rfl rfl (by decide) rfl ?_
          refine j_goto o (tgt := 7) dX6_cheapestThatTells_83 (by decide) ?_
          exact j_pick [1, 2, 3, 4, 0] rfl h)
        refine j_if_eq o (tgt := 80) dX6_cheapestThatTells_61 (by decide) (fun c13 => ?_) (fun c13 => ?_)
        · replace h := h.1 c13
          exact j_pick [1, 2, 3, 4, 5] rfl h
        · replace h := h.2 c13
          refine j_aload_n o dX6_cheapestThatTells_64 rfl ?_
          refine j_iload o dX6_cheapestThatTells_65 rfl ?_
          refine j_aload_n o dX6_cheapestThatTells_67 rfl ?_
          refine j_callVi (g := 9) (ci := 6) o (c_X6_isToldBy l P x3 a1 M4 N _ h) dX6_cheapestThatTells_68 jc_X6_39 jn_X6_isToldBy rfl rfl rfl (fun _ => rfl) rfl rfl (fun r14 M15 Nz16 h => ?_)
          obtain ⟨rfl, h⟩ := h
          refine j_if_eq o (tgt := 80) dX6_cheapestThatTells_71 (by decide) (fun c17 => ?_) (fun c17 => ?_)
          · replace h := h.1 c17
            exact j_pick [1, 2, 3, 4, 5] rfl h
          · replace h := h.2 c17
            refine j_iload o dX6_cheapestThatTells_74 rfl ?_
            refine j_istore_n o [(2, .int x3), (6, .int x9), (0, .ref (P.1 9)), (1, .ref (P.1 a1)), (3, .int x2), (4, .int x3), (5, .int r6)] dX6_cheapestThatTells_76 (by decide) rfl ?_
            refine j_iload o dX6_cheapestThatTells_77 rfl ?_
            refine j_istore_n o [(3, .int r6), (2, .int x3), (6, .int x9), (0, .ref (P.1 9)), (1, .ref (P.1 a1)), (4, .int x3), (5, .int r6)] dX6_cheapestThatTells_79 (by decide) rfl ?_
            exact j_pick [3, 4, 1, 0, 5] rfl h)
      refine j_icmp_eq o (tgt := 52) dX6_cheapestThatTells_28 (by decide) (fun c18 => ?_) (fun c18 => ?_)
      · replace h := h.1 c18
        refine j_iconst o (v := 1) dX6_cheapestThatTells_52 rfl ?_
        refine j_goto o (tgt := 57) dX6_cheapestThatTells_53 (by decide) ?_
        exact j_pick [1, 2, 3, 4, 5, 0] rfl h
      · replace h := h.2 c18
        refine j_iload o dX6_cheapestThatTells_31 rfl ?_
        refine j_iload_n o dX6_cheapestThatTells_33 rfl ?_
        refine j_icmp_lt o (tgt := 52) dX6_cheapestThatTells_34 (by decide) (fun c19 => ?_) (fun c19 => ?_)
        · replace h := h.1 c19
          refine j_iconst o (v := 1) dX6_cheapestThatTells_52 rfl ?_
          refine j_goto o (tgt := 57) dX6_cheapestThatTells_53 (by decide) ?_
          exact j_pick [1, 2, 3, 4, 5, 0] rfl h
        · replace h := h.2 c19
          refine j_iload o dX6_cheapestThatTells_37 rfl ?_
          refine j_iload_n o dX6_cheapestThatTells_39 rfl ?_
          refine j_icmp_ne o (tgt := 56) dX6_cheapestThatTells_40 (by decide) (fun c20 => ?_) (fun c20 => ?_)
          · replace h := h.1 c20
            refine j_iconst o (v := 0) dX6_cheapestThatTells_56 rfl ?_
            exact j_pick [1, 2, 3, 4, 5, 0] rfl h
          · replace h := h.2 c20
            refine j_iload o dX6_cheapestThatTells_43 rfl ?_
            refine j_iload_n o dX6_cheapestThatTells_45 rfl ?_
            refine j_callSNi o (c_X11_isAhead l P x3 x1 M4 N _ h) dX6_cheapestThatTells_46 jc_X6_35 jq_X6_35 jn_X11_isAhead rfl rfl rfl rfl (fun r21 Mz22 Nz23 h => ?_)
            obtain ⟨rfl, rfl, h⟩ := h
            refine j_if_eq o (tgt := 56) dX6_cheapestThatTells_49 (by decide) (fun c24 => ?_) (fun c24 => ?_)
            · replace h := h.1 c24
              refine j_iconst o (v := 0) dX6_cheapestThatTells_56 rfl ?_
              exact j_pick [1, 2, 3, 4, 5, 0] rfl h
            · replace h := h.2 c24
              refine j_iconst o (v := 1) dX6_cheapestThatTells_52 rfl ?_
              refine j_goto o (tgt := 57) dX6_cheapestThatTells_53 (by decide) ?_
              exact j_pick [1, 2, 3, 4, 5, 0] rfl h)
  exact j_pick [3, 4, 2, 1, 0] rfl h

abbrev rm_X6_pairsParted : Room := { frames := 0, cells := 0, slots := 0, locals := 0 }
def w_X6_pairsParted (P : jP) (a1 : Int32) (a2 : Nat) (M : jM) (Q : Int32 → jM → Prop) : Prop :=
  ∀ R5 : Int32 → jM → Prop, (∀ (x1 : Int32) (M2 : jM), (
   ((Int32.ofNat 7) ≤ x1 → (
    ∀ R40 : Int32 → Int32 → jM → Prop, (∀ (x4 : Int32) (x5 : Int32) (M6 : jM), (
     ((Int32.ofNat (P.2.2 1)) ≤ x5 → (
      ∀ R112 : Int32 → Int32 → Prop, (∀ (x8 : Int32) (x9 : Int32), (
       ((Int32.ofNat 7) ≤ x9 → (
        Q x8 M6
       )) ∧ (¬ (Int32.ofNat 7) ≤ x9 → (
        vp_in x9 (7) ∧
        vp_in x9 (7) ∧
        ∀ y13 : Int32, y13 = x8 + ((x4 - (M6 41 x9.toNatClampNeg)) * (M6 42 x9.toNatClampNeg)) →
        R112 y13 (x9 + 1)
       ))
      ) → R112 x8 x9) →
      R112 0 0
     )) ∧ (¬ (Int32.ofNat (P.2.2 1)) ≤ x5 → (
      vp_in x5 (P.2.2 1) ∧
      ∀ R100 : Int32 → jM → Prop, (∀ (x15 : Int32) (M16 : jM), (
       R40 x15 (x5 + 1) M16
      ) → R100 x15 M16) →
      ((((M6 39 x5.toNatClampNeg) >>> (a1 &&& 31)) &&& 1) = 0 → (
       jin P a2 x5 ∧
       vp_in ((M6 a2 x5.toNatClampNeg) + 1) (7) ∧
       vp_in ((M6 a2 x5.toNatClampNeg) + 1) (7) ∧
       ∀ M21 : jM, M21 = upM M6 42 ((M6 a2 x5.toNatClampNeg) + 1).toNatClampNeg ((M6 42 ((M6 a2 x5.toNatClampNeg) + 1).toNatClampNeg) + 1) →
       R100 x4 M21
      )) ∧ (¬ (((M6 39 x5.toNatClampNeg) >>> (a1 &&& 31)) &&& 1) = 0 → (
       jin P a2 x5 ∧
       vp_in ((M6 a2 x5.toNatClampNeg) + 1) (7) ∧
       vp_in ((M6 a2 x5.toNatClampNeg) + 1) (7) ∧
       ∀ M25 : jM, M25 = upM M6 41 ((M6 a2 x5.toNatClampNeg) + 1).toNatClampNeg ((M6 41 ((M6 a2 x5.toNatClampNeg) + 1).toNatClampNeg) + 1) →
       R100 (x4 + 1) M25
      ))
     ))
    ) → R40 x4 x5 M6) →
    R40 0 0 M2
   )) ∧ (¬ (Int32.ofNat 7) ≤ x1 → (
    vp_in x1 (7) ∧
    vp_in x1 (7) ∧
    ∀ M28 : jM, M28 = upM (upM M2 41 x1.toNatClampNeg 0) 42 x1.toNatClampNeg 0 →
    R5 (x1 + 1) M28
   ))
  ) → R5 x1 M2) →
  R5 0 M
set_option maxRecDepth 20000 in
theorem c_X6_pairsParted (l : Launch) (P : jP) (a1 : Int32) (a2 : Nat) (M : jM) (N : jN) (Q : Int32 → jM → Prop) (h : w_X6_pairsParted P a1 a2 M Q) : jC l yX6_pairsParted cX6_pairsParted 6 (some .int) rm_X6_pairsParted LC [.ref (P.1 9), .int a1, .ref (P.1 a2)] P M N (jqi P (fun r M' N' => N = N' ∧ Q r M' )) := by
  refine jC_of (by decide +kernel) [(0, .ref (P.1 9)), (1, .int a1), (2, .ref (P.1 a2))] (Nat.le_of_ble_eq_true rfl) rfl (fun X o => ?_)
  obtain ⟨E, hE⟩ : ∃ E, E = jE X rm_X6_pairsParted (jqi P (fun r M' N' => N = N' ∧ Q r M' )) := ⟨_, rfl⟩
  rw [← hE]
  unfold w_X6_pairsParted at h
  refine j_iconst o (v := 0) dX6_pairsParted_0 rfl ?_
  refine j_istore_n o [(3, .int 0), (0, .ref (P.1 9)), (1, .int a1), (2, .ref (P.1 a2))] dX6_pairsParted_1 (by decide) rfl ?_
  refine j_iconst o (v := 0) dX6_pairsParted_2 rfl ?_
  refine j_istore o [(4, .int 0), (3, .int 0), (0, .ref (P.1 9)), (1, .int a1), (2, .ref (P.1 a2))] dX6_pairsParted_3 (by decide) rfl ?_
  replace h := h (fun (x1 : Int32) (M2 : jM) => J X P M2 N 0 0 E 6 5 [(0, .ref (P.1 9)), (1, .int a1), (2, .ref (P.1 a2)), (3, .int 0), (4, .int x1)] []) (by
    intro x1 M2 h
    refine j_iload o dX6_pairsParted_5 rfl ?_
    refine j_aload_n o dX6_pairsParted_7 rfl ?_
    refine j_getf o (g := 9) (slot := 4) (ci := 6) (v := .ref (P.1 41)) rfl jin_X6 (by decide) rfl jf_X6_18 (fun _ => rfl) rfl dX6_pairsParted_8 ?_
    refine j_alen o (g := 41) (t0 := 0) (fun _ => rfl) (fun _ => rfl) dX6_pairsParted_11 ?_
    refine j_icmp_ge o (tgt := 37) dX6_pairsParted_12 (by decide) (fun c3 => ?_) (fun c3 => ?_)
    · replace h := h.1 c3
      refine j_iconst o (v := 0) dX6_pairsParted_37 rfl ?_
      refine j_istore o [(4, .int 0), (0, .ref (P.1 9)), (1, .int a1), (2, .ref (P.1 a2)), (3, .int 0)] dX6_pairsParted_38 (by decide) rfl ?_
      replace h := h (fun (x4 : Int32) (x5 : Int32) (M6 : jM) => J X P M6 N 0 0 E 6 40 [(0, .ref (P.1 9)), (1, .int a1), (2, .ref (P.1 a2)), (3, .int x4), (4, .int x5)] []) (by
        intro x4 x5 M6 h
        refine j_iload o dX6_pairsParted_40 rfl ?_
        refine j_aload_n o dX6_pairsParted_42 rfl ?_
        refine j_getf o (g := 9) (slot := 2) (ci := 6) (v := .ref (P.1 39)) rfl jin_X6 (by decide) rfl jf_X6_24 (fun _ => rfl) rfl dX6_pairsParted_43 ?_
        refine j_alen o (g := 39) (t0 := 0) (fun _ => rfl) (fun _ => rfl) dX6_pairsParted_46 ?_
        refine j_icmp_ge o (tgt := 106) dX6_pairsParted_47 (by decide) (fun c7 => ?_) (fun c7 => ?_)
        · replace h := h.1 c7
          refine j_iconst o (v := 0) dX6_pairsParted_106 rfl ?_
          refine j_istore o [(4, .int 0), (0, .ref (P.1 9)), (1, .int a1), (2, .ref (P.1 a2)), (3, .int x4)] dX6_pairsParted_107 (by decide) rfl ?_
          refine j_iconst o (v := 0) dX6_pairsParted_109 rfl ?_
          refine j_istore o [(5, .int 0), (4, .int 0), (0, .ref (P.1 9)), (1, .int a1), (2, .ref (P.1 a2)), (3, .int x4)] dX6_pairsParted_110 (by decide) rfl ?_
          replace h := h (fun (x8 : Int32) (x9 : Int32) => J X P M6 N 0 0 E 6 112 [(0, .ref (P.1 9)), (3, .int x4), (4, .int x8), (5, .int x9)] []) (by
            intro x8 x9 h
            refine j_iload o dX6_pairsParted_112 rfl ?_
            refine j_aload_n o dX6_pairsParted_114 rfl ?_
            refine j_getf o (g := 9) (slot := 4) (ci := 6) (v := .ref (P.1 41)) rfl jin_X6 (by decide) rfl jf_X6_18 (fun _ => rfl) rfl dX6_pairsParted_115 ?_
            refine j_alen o (g := 41) (t0 := 0) (fun _ => rfl) (fun _ => rfl) dX6_pairsParted_118 ?_
            refine j_icmp_ge o (tgt := 150) dX6_pairsParted_119 (by decide) (fun c10 => ?_) (fun c10 => ?_)
            · replace h := h.1 c10
              refine j_iload o dX6_pairsParted_150 rfl ?_
              rw [hE]
              exact j_iret o dX6_pairsParted_152 ⟨_, rfl, rfl, rfl, h⟩
            · replace h := h.2 c10
              refine j_iload o dX6_pairsParted_122 rfl ?_
              refine j_iload_n o dX6_pairsParted_124 rfl ?_
              refine j_aload_n o dX6_pairsParted_125 rfl ?_
              refine j_getf o (g := 9) (slot := 4) (ci := 6) (v := .ref (P.1 41)) rfl jin_X6 (by decide) rfl jf_X6_18 (fun _ => rfl) rfl dX6_pairsParted_126 ?_
              refine j_iload o dX6_pairsParted_129 rfl ?_
              obtain ⟨hb11, h⟩ := h
              refine j_iald o (g := 41) (fun _ => rfl) hb11 dX6_pairsParted_131 ?_
              refine j_isub o dX6_pairsParted_132 ?_
              refine j_aload_n o dX6_pairsParted_133 rfl ?_
              refine j_getf o (g := 9) (slot := 5) (ci := 6) (v := .ref (P.1 42)) rfl jin_X6 (by decide) rfl jf_X6_21 (fun _ => rfl) rfl dX6_pairsParted_134 ?_
              refine j_iload o dX6_pairsParted_137 rfl ?_
              obtain ⟨hb12, h⟩ := h
              refine j_iald o (g := 42) (fun _ => rfl) hb12 dX6_pairsParted_139 ?_
              refine j_imul o dX6_pairsParted_140 ?_
              refine j_iadd o dX6_pairsParted_141 ?_
              refine j_topi (fun y13 hy13 => ?_)
              replace h := h y13 hy13
              refine j_istore o [(4, .int y13), (0, .ref (P.1 9)), (3, .int x4), (5, .int x9)] dX6_pairsParted_142 (by decide) rfl ?_
              refine j_iinc o (v := x9 + 1) [(5, .int (x9 + 1)), (4, .int y13), (0, .ref (P.1 9)), (3, .int x4)] dX6_pairsParted_144 rfl rfl (by decide) rfl ?_
              refine j_goto o (tgt := 112) dX6_pairsParted_147 (by decide) ?_
              exact j_pick [2, 3, 1, 0] rfl h)
          exact j_pick [2, 5, 1, 0] rfl h
        · replace h := h.2 c7
          refine j_aload_n o dX6_pairsParted_50 rfl ?_
          refine j_getf o (g := 9) (slot := 2) (ci := 6) (v := .ref (P.1 39)) rfl jin_X6 (by decide) rfl jf_X6_24 (fun _ => rfl) rfl dX6_pairsParted_51 ?_
          refine j_iload o dX6_pairsParted_54 rfl ?_
          obtain ⟨hb14, h⟩ := h
          refine j_iald o (g := 39) (fun _ => rfl) hb14 dX6_pairsParted_56 ?_
          refine j_iload_n o dX6_pairsParted_57 rfl ?_
          refine j_ishr o dX6_pairsParted_58 ?_
          refine j_iconst o (v := 1) dX6_pairsParted_59 rfl ?_
          refine j_iand o dX6_pairsParted_60 ?_
          replace h := h (fun (x15 : Int32) (M16 : jM) => J X P M16 N 0 0 E 6 100 [(0, .ref (P.1 9)), (1, .int a1), (2, .ref (P.1 a2)), (3, .int x15), (4, .int x5)] []) (by
            intro x15 M16 h
            refine j_iinc o (v := x5 + 1) [(4, .int (x5 + 1)), (0, .ref (P.1 9)), (1, .int a1), (2, .ref (P.1 a2)), (3, .int x15)] dX6_pairsParted_100 rfl rfl (by decide) rfl ?_
            refine j_goto o (tgt := 40) dX6_pairsParted_103 (by decide) ?_
            exact j_pick [1, 2, 3, 4, 0] rfl h)
          refine j_if_eq o (tgt := 85) dX6_pairsParted_61 (by decide) (fun c17 => ?_) (fun c17 => ?_)
          · replace h := h.1 c17
            refine j_aload_n o dX6_pairsParted_85 rfl ?_
            refine j_getf o (g := 9) (slot := 5) (ci := 6) (v := .ref (P.1 42)) rfl jin_X6 (by decide) rfl jf_X6_21 (fun _ => rfl) rfl dX6_pairsParted_86 ?_
            refine j_aload_n o dX6_pairsParted_89 rfl ?_
            refine j_iload o dX6_pairsParted_90 rfl ?_
            obtain ⟨hb18, h⟩ := h
            obtain ⟨nnhb18, hchb18, hihb18⟩ := hb18
            refine j_iald o (g := a2) (fun tA => LC_ia hchb18 tA _ _) hihb18 dX6_pairsParted_92 ?_
            refine j_iconst o (v := 1) dX6_pairsParted_93 rfl ?_
            refine j_iadd o dX6_pairsParted_94 ?_
            refine j_dup2 o dX6_pairsParted_95 rfl rfl ?_
            obtain ⟨hb19, h⟩ := h
            refine j_iald o (g := 42) (fun _ => rfl) hb19 dX6_pairsParted_96 ?_
            refine j_iconst o (v := 1) dX6_pairsParted_97 rfl ?_
            refine j_iadd o dX6_pairsParted_98 ?_
            obtain ⟨hb20, h⟩ := h
            refine j_iast o (g := 42) (fun _ _ _ => rfl) hb20 dX6_pairsParted_99 ?_
            refine j_nameM (fun M21 hM21 => ?_)
            replace h := h M21 hM21
            exact j_pick [0, 1, 2, 3, 4] rfl h
          · replace h := h.2 c17
            refine j_aload_n o dX6_pairsParted_64 rfl ?_
            refine j_getf o (g := 9) (slot := 4) (ci := 6) (v := .ref (P.1 41)) rfl jin_X6 (by decide) rfl jf_X6_18 (fun _ => rfl) rfl dX6_pairsParted_65 ?_
            refine j_aload_n o dX6_pairsParted_68 rfl ?_
            refine j_iload o dX6_pairsParted_69 rfl ?_
            obtain ⟨hb22, h⟩ := h
            obtain ⟨nnhb22, hchb22, hihb22⟩ := hb22
            refine j_iald o (g := a2) (fun tA => LC_ia hchb22 tA _ _) hihb22 dX6_pairsParted_71 ?_
            refine j_iconst o (v := 1) dX6_pairsParted_72 rfl ?_
            refine j_iadd o dX6_pairsParted_73 ?_
            refine j_dup2 o dX6_pairsParted_74 rfl rfl ?_
            obtain ⟨hb23, h⟩ := h
            refine j_iald o (g := 41) (fun _ => rfl) hb23 dX6_pairsParted_75 ?_
            refine j_iconst o (v := 1) dX6_pairsParted_76 rfl ?_
            refine j_iadd o dX6_pairsParted_77 ?_
            obtain ⟨hb24, h⟩ := h
            refine j_iast o (g := 41) (fun _ _ _ => rfl) hb24 dX6_pairsParted_78 ?_
            refine j_nameM (fun M25 hM25 => ?_)
            replace h := h M25 hM25
            refine j_iinc o (v := x4 + 1) [(3, .int (x4 + 1)), (0, .ref (P.1 9)), (1, .int a1), (2, .ref (P.1 a2)), (4, .int x5)] dX6_pairsParted_79 rfl rfl (by decide) rfl ?_
            refine j_goto o (tgt := 100) dX6_pairsParted_82 (by decide) ?_
            exact j_pick [1, 2, 3, 0, 4] rfl h)
      exact j_pick [1, 2, 3, 4, 0] rfl h
    · replace h := h.2 c3
      refine j_aload_n o dX6_pairsParted_15 rfl ?_
      refine j_getf o (g := 9) (slot := 4) (ci := 6) (v := .ref (P.1 41)) rfl jin_X6 (by decide) rfl jf_X6_18 (fun _ => rfl) rfl dX6_pairsParted_16 ?_
      refine j_iload o dX6_pairsParted_19 rfl ?_
      refine j_iconst o (v := 0) dX6_pairsParted_21 rfl ?_
      obtain ⟨hb26, h⟩ := h
      refine j_iast o (g := 41) (fun _ _ _ => rfl) hb26 dX6_pairsParted_22 ?_
      refine j_aload_n o dX6_pairsParted_23 rfl ?_
      refine j_getf o (g := 9) (slot := 5) (ci := 6) (v := .ref (P.1 42)) rfl jin_X6 (by decide) rfl jf_X6_21 (fun _ => rfl) rfl dX6_pairsParted_24 ?_
      refine j_iload o dX6_pairsParted_27 rfl ?_
      refine j_iconst o (v := 0) dX6_pairsParted_29 rfl ?_
      obtain ⟨hb27, h⟩ := h
      refine j_iast o (g := 42) (fun _ _ _ => rfl) hb27 dX6_pairsParted_30 ?_
      refine j_nameM (fun M28 hM28 => ?_)
      replace h := h M28 hM28
      refine j_iinc o (v := x1 + 1) [(4, .int (x1 + 1)), (0, .ref (P.1 9)), (1, .int a1), (2, .ref (P.1 a2)), (3, .int 0)] dX6_pairsParted_31 rfl rfl (by decide) rfl ?_
      refine j_goto o (tgt := 5) dX6_pairsParted_34 (by decide) ?_
      exact j_pick [1, 2, 3, 4, 0] rfl h)
  exact j_pick [2, 3, 4, 1, 0] rfl h

abbrev rm_X6_casesGiven : Room := { frames := 0, cells := 0, slots := 0, locals := 0 }
def w_X6_casesGiven (P : jP) (a1 : Int32) (a2 : Int32) (M : jM) (Q : Int32 → Prop) : Prop :=
  ∀ R5 : Int32 → Int32 → Prop, (∀ (x1 : Int32) (x2 : Int32), (
   ((Int32.ofNat (P.2.2 1)) ≤ x2 → (
    Q x1
   )) ∧ (¬ (Int32.ofNat (P.2.2 1)) ≤ x2 → (
    vp_in x2 (P.2.2 1) ∧
    ∀ R34 : Int32 → Prop, (∀ (x5 : Int32), (
     R5 (x1 + x5) (x2 + 1)
    ) → R34 x5) →
    (¬ ((M 39 x2.toNatClampNeg) &&& a1) = a2 → (
     R34 0
    )) ∧ (((M 39 x2.toNatClampNeg) &&& a1) = a2 → (
     R34 1
    ))
   ))
  ) → R5 x1 x2) →
  R5 0 0
set_option maxRecDepth 20000 in
theorem c_X6_casesGiven (l : Launch) (P : jP) (a1 : Int32) (a2 : Int32) (M : jM) (N : jN) (Q : Int32 → Prop) (h : w_X6_casesGiven P a1 a2 M Q) : jC l yX6_casesGiven cX6_casesGiven 5 (some .int) rm_X6_casesGiven LC [.ref (P.1 9), .int a1, .int a2] P M N (jqi P (fun r M' N' => M = M' ∧ N = N' ∧ Q r )) := by
  refine jC_of (by decide +kernel) [(0, .ref (P.1 9)), (1, .int a1), (2, .int a2)] (Nat.le_of_ble_eq_true rfl) rfl (fun X o => ?_)
  obtain ⟨E, hE⟩ : ∃ E, E = jE X rm_X6_casesGiven (jqi P (fun r M' N' => M = M' ∧ N = N' ∧ Q r )) := ⟨_, rfl⟩
  rw [← hE]
  unfold w_X6_casesGiven at h
  refine j_iconst o (v := 0) dX6_casesGiven_0 rfl ?_
  refine j_istore_n o [(3, .int 0), (0, .ref (P.1 9)), (1, .int a1), (2, .int a2)] dX6_casesGiven_1 (by decide) rfl ?_
  refine j_iconst o (v := 0) dX6_casesGiven_2 rfl ?_
  refine j_istore o [(4, .int 0), (3, .int 0), (0, .ref (P.1 9)), (1, .int a1), (2, .int a2)] dX6_casesGiven_3 (by decide) rfl ?_
  replace h := h (fun (x1 : Int32) (x2 : Int32) => J X P M N 0 0 E 5 5 [(0, .ref (P.1 9)), (1, .int a1), (2, .int a2), (3, .int x1), (4, .int x2)] []) (by
    intro x1 x2 h
    refine j_iload o dX6_casesGiven_5 rfl ?_
    refine j_aload_n o dX6_casesGiven_7 rfl ?_
    refine j_getf o (g := 9) (slot := 2) (ci := 6) (v := .ref (P.1 39)) rfl jin_X6 (by decide) rfl jf_X6_24 (fun _ => rfl) rfl dX6_casesGiven_8 ?_
    refine j_alen o (g := 39) (t0 := 0) (fun _ => rfl) (fun _ => rfl) dX6_casesGiven_11 ?_
    refine j_icmp_ge o (tgt := 42) dX6_casesGiven_12 (by decide) (fun c3 => ?_) (fun c3 => ?_)
    · replace h := h.1 c3
      refine j_iload_n o dX6_casesGiven_42 rfl ?_
      rw [hE]
      exact j_iret o dX6_casesGiven_43 ⟨_, rfl, rfl, rfl, rfl, h⟩
    · replace h := h.2 c3
      refine j_iload_n o dX6_casesGiven_15 rfl ?_
      refine j_aload_n o dX6_casesGiven_16 rfl ?_
      refine j_getf o (g := 9) (slot := 2) (ci := 6) (v := .ref (P.1 39)) rfl jin_X6 (by decide) rfl jf_X6_24 (fun _ => rfl) rfl dX6_casesGiven_17 ?_
      refine j_iload o dX6_casesGiven_20 rfl ?_
      obtain ⟨hb4, h⟩ := h
      refine j_iald o (g := 39) (fun _ => rfl) hb4 dX6_casesGiven_22 ?_
      refine j_iload_n o dX6_casesGiven_23 rfl ?_
      refine j_iand o dX6_casesGiven_24 ?_
      refine j_iload_n o dX6_casesGiven_25 rfl ?_
      replace h := h (fun (x5 : Int32) => J X P M N 0 0 E 5 34 [(0, .ref (P.1 9)), (1, .int a1), (2, .int a2), (4, .int x2)] [.int x5, .int x1]) (by
        intro x5 h
        refine j_iadd o dX6_casesGiven_34 ?_
        refine j_istore_n o [(3, .int (x1 + x5)), (0, .ref (P.1 9)), (1, .int a1), (2, .int a2), (4, .int x2)] dX6_casesGiven_35 (by decide) rfl ?_
        refine j_iinc o (v := x2 + 1) [(4, .int (x2 + 1)), (3, .int (x1 + x5)), (0, .ref (P.1 9)), (1, .int a1), (2, .int a2)] dX6_casesGiven_36 rfl rfl (by decide) rfl ?_
        refine j_goto o (tgt := 5) dX6_casesGiven_39 (by decide) ?_
        exact j_pick [2, 3, 4, 1, 0] rfl h)
      refine j_icmp_ne o (tgt := 33) dX6_casesGiven_26 (by decide) (fun c6 => ?_) (fun c6 => ?_)
      · replace h := h.1 c6
        refine j_iconst o (v := 0) dX6_casesGiven_33 rfl ?_
        exact j_pick [0, 1, 2, 4] rfl h
      · replace h := h.2 c6
        refine j_iconst o (v := 1) dX6_casesGiven_29 rfl ?_
        refine j_goto o (tgt := 34) dX6_casesGiven_30 (by decide) ?_
        exact j_pick [0, 1, 2, 4] rfl h)
  exact j_pick [2, 3, 4, 1, 0] rfl h

abbrev rm_X6_toldGiven : Room := { frames := 0, cells := 0, slots := 0, locals := 0 }
def w_X6_toldGiven (P : jP) (a1 : Nat) (a2 : Int32) (a3 : Int32) (M : jM) (Q : Int32 → Prop) : Prop :=
  ∀ R7 : Int32 → Int32 → Prop, (∀ (x1 : Int32) (x2 : Int32), (
   ((Int32.ofNat (P.2.2 1)) ≤ x2 → (
    Q x1
   )) ∧ (¬ (Int32.ofNat (P.2.2 1)) ≤ x2 → (
    vp_in x2 (P.2.2 1) ∧
    ∀ R55 : Int32 → Prop, (∀ (x5 : Int32), (
     R7 x5 (x2 + 1)
    ) → R55 x5) →
    (¬ ((M 39 x2.toNatClampNeg) &&& a2) = a3 → (
     R55 x1
    )) ∧ (((M 39 x2.toNatClampNeg) &&& a2) = a3 → (
     ∀ R49 : Prop, ((
      jin P a1 x2 ∧
      R55 (M a1 x2.toNatClampNeg)
     ) → R49) →
     (x1 = (-2) → (
      R49
     )) ∧ (¬ x1 = (-2) → (
      jin P a1 x2 ∧
      (x1 = (M a1 x2.toNatClampNeg) → (
       R49
      )) ∧ (¬ x1 = (M a1 x2.toNatClampNeg) → (
       Q (-2)
      ))
     ))
    ))
   ))
  ) → R7 x1 x2) →
  R7 (-2) 0
set_option maxRecDepth 20000 in
theorem c_X6_toldGiven (l : Launch) (P : jP) (a1 : Nat) (a2 : Int32) (a3 : Int32) (M : jM) (N : jN) (Q : Int32 → Prop) (h : w_X6_toldGiven P a1 a2 a3 M Q) : jC l yX6_toldGiven cX6_toldGiven 6 (some .int) rm_X6_toldGiven LC [.ref (P.1 9), .ref (P.1 a1), .int a2, .int a3] P M N (jqi P (fun r M' N' => M = M' ∧ N = N' ∧ Q r )) := by
  refine jC_of (by decide +kernel) [(0, .ref (P.1 9)), (1, .ref (P.1 a1)), (2, .int a2), (3, .int a3)] (Nat.le_of_ble_eq_true rfl) rfl (fun X o => ?_)
  obtain ⟨E, hE⟩ : ∃ E, E = jE X rm_X6_toldGiven (jqi P (fun r M' N' => M = M' ∧ N = N' ∧ Q r )) := ⟨_, rfl⟩
  rw [← hE]
  unfold w_X6_toldGiven at h
  refine j_bipush o (v := (-2)) dX6_toldGiven_0 rfl ?_
  refine j_istore o [(4, .int (-2)), (0, .ref (P.1 9)), (1, .ref (P.1 a1)), (2, .int a2), (3, .int a3)] dX6_toldGiven_2 (by decide) rfl ?_
  refine j_iconst o (v := 0) dX6_toldGiven_4 rfl ?_
  refine j_istore o [(5, .int 0), (4, .int (-2)), (0, .ref (P.1 9)), (1, .ref (P.1 a1)), (2, .int a2), (3, .int a3)] dX6_toldGiven_5 (by decide) rfl ?_
  replace h := h (fun (x1 : Int32) (x2 : Int32) => J X P M N 0 0 E 6 7 [(0, .ref (P.1 9)), (1, .ref (P.1 a1)), (2, .int a2), (3, .int a3), (4, .int x1), (5, .int x2)] []) (by
    intro x1 x2 h
    refine j_iload o dX6_toldGiven_7 rfl ?_
    refine j_aload_n o dX6_toldGiven_9 rfl ?_
    refine j_getf o (g := 9) (slot := 2) (ci := 6) (v := .ref (P.1 39)) rfl jin_X6 (by decide) rfl jf_X6_24 (fun _ => rfl) rfl dX6_toldGiven_10 ?_
    refine j_alen o (g := 39) (t0 := 0) (fun _ => rfl) (fun _ => rfl) dX6_toldGiven_13 ?_
    refine j_icmp_ge o (tgt := 61) dX6_toldGiven_14 (by decide) (fun c3 => ?_) (fun c3 => ?_)
    · replace h := h.1 c3
      refine j_iload o dX6_toldGiven_61 rfl ?_
      rw [hE]
      exact j_iret o dX6_toldGiven_63 ⟨_, rfl, rfl, rfl, rfl, h⟩
    · replace h := h.2 c3
      refine j_aload_n o dX6_toldGiven_17 rfl ?_
      refine j_getf o (g := 9) (slot := 2) (ci := 6) (v := .ref (P.1 39)) rfl jin_X6 (by decide) rfl jf_X6_24 (fun _ => rfl) rfl dX6_toldGiven_18 ?_
      refine j_iload o dX6_toldGiven_21 rfl ?_
      obtain ⟨hb4, h⟩ := h
      refine j_iald o (g := 39) (fun _ => rfl) hb4 dX6_toldGiven_23 ?_
      refine j_iload_n o dX6_toldGiven_24 rfl ?_
      refine j_iand o dX6_toldGiven_25 ?_
      refine j_iload_n o dX6_toldGiven_26 rfl ?_
      replace h := h (fun (x5 : Int32) => J X P M N 0 0 E 6 55 [(0, .ref (P.1 9)), (1, .ref (P.1 a1)), (2, .int a2), (3, .int a3), (4, .int x5), (5, .int x2)] []) (by
        intro x5 h
        refine j_iinc o (v := x2 + 1) [(5, .int (x2 + 1)), (0, .ref (P.1 9)), (1, .ref (P.1 a1)), (2, .int a2), (3, .int a3), (4, .int x5)] dX6_toldGiven_55 rfl rfl (by decide) rfl ?_
        refine j_goto o (tgt := 7) dX6_toldGiven_58 (by decide) ?_
        exact j_pick [1, 2, 3, 4, 5, 0] rfl h)
      refine j_icmp_ne o (tgt := 55) dX6_toldGiven_27 (by decide) (fun c6 => ?_) (fun c6 => ?_)
      · replace h := h.1 c6
        exact j_pick [0, 1, 2, 3, 4, 5] rfl h
      · replace h := h.2 c6
        refine j_iload o dX6_toldGiven_30 rfl ?_
        refine j_bipush o (v := (-2)) dX6_toldGiven_32 rfl ?_
        replace h := h (J X P M N 0 0 E 6 49 [(0, .ref (P.1 9)), (1, .ref (P.1 a1)), (2, .int a2), (3, .int a3), (5, .int x2)] []) (by
          intro h
          refine j_aload_n o dX6_toldGiven_49 rfl ?_
          refine j_iload o dX6_toldGiven_50 rfl ?_
          obtain ⟨hb7, h⟩ := h
          obtain ⟨nnhb7, hchb7, hihb7⟩ := hb7
          refine j_iald o (g := a1) (fun tA => LC_ia hchb7 tA _ _) hihb7 dX6_toldGiven_52 ?_
          refine j_istore o [(4, .int (M a1 x2.toNatClampNeg)), (0, .ref (P.1 9)), (1, .ref (P.1 a1)), (2, .int a2), (3, .int a3), (5, .int x2)] dX6_toldGiven_53 (by decide) rfl ?_
          exact j_pick [1, 2, 3, 4, 0, 5] rfl h)
        refine j_icmp_eq o (tgt := 49) dX6_toldGiven_34 (by decide) (fun c8 => ?_) (fun c8 => ?_)
        · replace h := h.1 c8
          exact j_pick [0, 1, 2, 3, 5] rfl h
        · replace h := h.2 c8
          refine j_iload o dX6_toldGiven_37 rfl ?_
          refine j_aload_n o dX6_toldGiven_39 rfl ?_
          refine j_iload o dX6_toldGiven_40 rfl ?_
          obtain ⟨hb9, h⟩ := h
          obtain ⟨nnhb9, hchb9, hihb9⟩ := hb9
          refine j_iald o (g := a1) (fun tA => LC_ia hchb9 tA _ _) hihb9 dX6_toldGiven_42 ?_
          refine j_icmp_eq o (tgt := 49) dX6_toldGiven_43 (by decide) (fun c10 => ?_) (fun c10 => ?_)
          · replace h := h.1 c10
            exact j_pick [0, 1, 2, 3, 5] rfl h
          · replace h := h.2 c10
            refine j_bipush o (v := (-2)) dX6_toldGiven_46 rfl ?_
            rw [hE]
            exact j_iret o dX6_toldGiven_48 ⟨_, rfl, rfl, rfl, rfl, h⟩)
  exact j_pick [2, 3, 4, 5, 1, 0] rfl h

abbrev rm_X6_nextGiven : Room := { frames := 1, cells := 0, slots := 0, locals := 24 }
def w_X6_nextGiven (P : jP) (a1 : Int32) (a2 : Int32) (M : jM) (Q : Int32 → Prop) : Prop :=
  w_X6_casesGiven P a1 a2 M (fun r1 =>
  ∀ R18 : Int32 → Int32 → Int32 → Prop, (∀ (x4 : Int32) (x5 : Int32) (x6 : Int32), (
   ((M 9 0) ≤ x6 → (
    Q x4
   )) ∧ (¬ (M 9 0) ≤ x6 → (
    (r1 ≤ 0 → (
     Q x4
    )) ∧ (¬ r1 ≤ 0 → (
     ∀ R84 : Int32 → Int32 → Prop, (∀ (x9 : Int32) (x10 : Int32), (
      R18 x9 x10 (x6 + 1)
     ) → R84 x9 x10) →
     (¬ ((a1 >>> (x6 &&& 31)) &&& 1) = 0 → (
      R84 x4 x5
     )) ∧ (((a1 >>> (x6 &&& 31)) &&& 1) = 0 → (
      w_X6_casesGiven P (a1 ||| ((1 : Int32) <<< (x6 &&& 31))) (a2 ||| ((1 : Int32) <<< (x6 &&& 31))) M (fun r12 =>
      ∀ y15 : Int32, y15 = (if r12 < (r1 - r12) then (r1 - r12) else r12) →
      (x5 ≤ y15 → (
       R84 x4 x5
      )) ∧ (¬ x5 ≤ y15 → (
       R84 x6 y15
      )))
     ))
    ))
   ))
  ) → R18 x4 x5 x6) →
  R18 (-1) (r1 + 1) 0)
set_option maxRecDepth 20000 in
theorem c_X6_nextGiven (l : Launch) (P : jP) (a1 : Int32) (a2 : Int32) (M : jM) (N : jN) (Q : Int32 → Prop) (h : w_X6_nextGiven P a1 a2 M Q) : jC l yX6_nextGiven cX6_nextGiven 9 (some .int) rm_X6_nextGiven LC [.ref (P.1 9), .int a1, .int a2] P M N (jqi P (fun r M' N' => M = M' ∧ N = N' ∧ Q r )) := by
  refine jC_of (by decide +kernel) [(0, .ref (P.1 9)), (1, .int a1), (2, .int a2)] (Nat.le_of_ble_eq_true rfl) rfl (fun X o => ?_)
  obtain ⟨E, hE⟩ : ∃ E, E = jE X rm_X6_nextGiven (jqi P (fun r M' N' => M = M' ∧ N = N' ∧ Q r )) := ⟨_, rfl⟩
  rw [← hE]
  unfold w_X6_nextGiven at h
  refine j_aload_n o dX6_nextGiven_0 rfl ?_
  refine j_iload_n o dX6_nextGiven_1 rfl ?_
  refine j_iload_n o dX6_nextGiven_2 rfl ?_
  refine j_callVi (g := 9) (ci := 6) o (c_X6_casesGiven l P a1 a2 M N _ h) dX6_nextGiven_3 jc_X6_46 jn_X6_casesGiven rfl rfl rfl (fun _ => rfl) rfl rfl (fun r1 Mz2 Nz3 h => ?_)
  obtain ⟨rfl, rfl, h⟩ := h
  refine j_istore_n o [(3, .int r1), (0, .ref (P.1 9)), (1, .int a1), (2, .int a2)] dX6_nextGiven_6 (by decide) rfl ?_
  refine j_iconst o (v := (-1)) dX6_nextGiven_7 rfl ?_
  refine j_istore o [(4, .int (-1)), (3, .int r1), (0, .ref (P.1 9)), (1, .int a1), (2, .int a2)] dX6_nextGiven_8 (by decide) rfl ?_
  refine j_iload_n o dX6_nextGiven_10 rfl ?_
  refine j_iconst o (v := 1) dX6_nextGiven_11 rfl ?_
  refine j_iadd o dX6_nextGiven_12 ?_
  refine j_istore o [(5, .int (r1 + 1)), (4, .int (-1)), (3, .int r1), (0, .ref (P.1 9)), (1, .int a1), (2, .int a2)] dX6_nextGiven_13 (by decide) rfl ?_
  refine j_iconst o (v := 0) dX6_nextGiven_15 rfl ?_
  refine j_istore o [(6, .int 0), (5, .int (r1 + 1)), (4, .int (-1)), (3, .int r1), (0, .ref (P.1 9)), (1, .int a1), (2, .int a2)] dX6_nextGiven_16 (by decide) rfl ?_
  replace h := h (fun (x4 : Int32) (x5 : Int32) (x6 : Int32) => J X P M N 0 0 E 9 18 [(0, .ref (P.1 9)), (1, .int a1), (2, .int a2), (3, .int r1), (4, .int x4), (5, .int x5), (6, .int x6)] []) (by
    intro x4 x5 x6 h
    refine j_iload o dX6_nextGiven_18 rfl ?_
    refine j_aload_n o dX6_nextGiven_20 rfl ?_
    refine j_getf o (g := 9) (slot := 0) (ci := 6) (v := .int (M 9 0)) rfl jin_X6 (by decide) rfl jf_X6_27 (fun _ => rfl) rfl dX6_nextGiven_21 ?_
    refine j_icmp_ge o (tgt := 90) dX6_nextGiven_24 (by decide) (fun c7 => ?_) (fun c7 => ?_)
    · replace h := h.1 c7
      refine j_iload o dX6_nextGiven_90 rfl ?_
      rw [hE]
      exact j_iret o dX6_nextGiven_92 ⟨_, rfl, rfl, rfl, rfl, h⟩
    · replace h := h.2 c7
      refine j_iload_n o dX6_nextGiven_27 rfl ?_
      refine j_if_le o (tgt := 90) dX6_nextGiven_28 (by decide) (fun c8 => ?_) (fun c8 => ?_)
      · replace h := h.1 c8
        refine j_iload o dX6_nextGiven_90 rfl ?_
        rw [hE]
        exact j_iret o dX6_nextGiven_92 ⟨_, rfl, rfl, rfl, rfl, h⟩
      · replace h := h.2 c8
        refine j_iload_n o dX6_nextGiven_31 rfl ?_
        refine j_iload o dX6_nextGiven_32 rfl ?_
        refine j_ishr o dX6_nextGiven_34 ?_
        refine j_iconst o (v := 1) dX6_nextGiven_35 rfl ?_
        refine j_iand o dX6_nextGiven_36 ?_
        replace h := h (fun (x9 : Int32) (x10 : Int32) => J X P M N 0 0 E 9 84 [(0, .ref (P.1 9)), (1, .int a1), (2, .int a2), (3, .int r1), (4, .int x9), (5, .int x10), (6, .int x6)] []) (by
          intro x9 x10 h
          refine j_iinc o (v := x6 + 1) [(6, .int (x6 + 1)), (0, .ref (P.1 9)), (1, .int a1), (2, .int a2), (3, .int r1), (4, .int x9), (5, .int x10)] dX6_nextGiven_84 rfl rfl (by decide) rfl ?_
          refine j_goto o (tgt := 18) dX6_nextGiven_87 (by decide) ?_
          exact j_pick [1, 2, 3, 4, 5, 6, 0] rfl h)
        refine j_if_ne o (tgt := 84) dX6_nextGiven_37 (by decide) (fun c11 => ?_) (fun c11 => ?_)
        · replace h := h.1 c11
          exact j_pick [0, 1, 2, 3, 4, 5, 6] rfl h
        · replace h := h.2 c11
          refine j_aload_n o dX6_nextGiven_40 rfl ?_
          refine j_iload_n o dX6_nextGiven_41 rfl ?_
          refine j_iconst o (v := 1) dX6_nextGiven_42 rfl ?_
          refine j_iload o dX6_nextGiven_43 rfl ?_
          refine j_ishl o dX6_nextGiven_45 ?_
          refine j_ior o dX6_nextGiven_46 ?_
          refine j_iload_n o dX6_nextGiven_47 rfl ?_
          refine j_iconst o (v := 1) dX6_nextGiven_48 rfl ?_
          refine j_iload o dX6_nextGiven_49 rfl ?_
          refine j_ishl o dX6_nextGiven_51 ?_
          refine j_ior o dX6_nextGiven_52 ?_
          refine j_callVi (g := 9) (ci := 6) o (c_X6_casesGiven l P (a1 ||| ((1 : Int32) <<< (x6 &&& 31))) (a2 ||| ((1 : Int32) <<< (x6 &&& 31))) M N _ h) dX6_nextGiven_53 jc_X6_46 jn_X6_casesGiven rfl rfl rfl (fun _ => rfl) rfl rfl (fun r12 Mz13 Nz14 h => ?_)
          obtain ⟨rfl, rfl, h⟩ := h
          refine j_istore o [(7, .int r12), (0, .ref (P.1 9)), (1, .int a1), (2, .int a2), (3, .int r1), (4, .int x4), (5, .int x5), (6, .int x6)] dX6_nextGiven_56 (by decide) rfl ?_
          refine j_iload o dX6_nextGiven_58 rfl ?_
          refine j_iload_n o dX6_nextGiven_60 rfl ?_
          refine j_iload o dX6_nextGiven_61 rfl ?_
          refine j_isub o dX6_nextGiven_63 ?_
          refine j_mmax o dX6_nextGiven_64 jc_X6_50 rfl ?_
          refine j_topi (fun y15 hy15 => ?_)
          replace h := h y15 hy15
          refine j_istore o [(8, .int y15), (7, .int r12), (0, .ref (P.1 9)), (1, .int a1), (2, .int a2), (3, .int r1), (4, .int x4), (5, .int x5), (6, .int x6)] dX6_nextGiven_67 (by decide) rfl ?_
          refine j_iload o dX6_nextGiven_69 rfl ?_
          refine j_iload o dX6_nextGiven_71 rfl ?_
          refine j_icmp_ge o (tgt := 84) dX6_nextGiven_73 (by decide) (fun c16 => ?_) (fun c16 => ?_)
          · replace h := h.1 c16
            exact j_pick [2, 3, 4, 5, 6, 7, 8] rfl h
          · replace h := h.2 c16
            refine j_iload o dX6_nextGiven_76 rfl ?_
            refine j_istore o [(5, .int y15), (8, .int y15), (7, .int r12), (0, .ref (P.1 9)), (1, .int a1), (2, .int a2), (3, .int r1), (4, .int x4), (6, .int x6)] dX6_nextGiven_78 (by decide) rfl ?_
            refine j_iload o dX6_nextGiven_80 rfl ?_
            refine j_istore o [(4, .int x6), (5, .int y15), (8, .int y15), (7, .int r12), (0, .ref (P.1 9)), (1, .int a1), (2, .int a2), (3, .int r1), (6, .int x6)] dX6_nextGiven_82 (by decide) rfl ?_
            exact j_pick [4, 5, 6, 7, 0, 1, 8] rfl h)
  exact j_pick [4, 5, 6, 3, 2, 1, 0] rfl h

abbrev rm_X10_miss : Room := { frames := 0, cells := 0, slots := 0, locals := 0 }
def w_X10_miss (P : jP) (a1 : Int32) (M : jM) (Q : Int32 → jM → Prop) : Prop :=
  Q 0 (upM M 3 3 a1)
set_option maxRecDepth 20000 in
theorem c_X10_miss (l : Launch) (P : jP) (a1 : Int32) (M : jM) (N : jN) (Q : Int32 → jM → Prop) (h : w_X10_miss P a1 M Q) : jC l yX10_miss cX10_miss 2 (some .boolean) rm_X10_miss LC [.ref (P.1 3), .int a1] P M N (jqi P (fun r M' N' => N = N' ∧ Q r M' )) := by
  refine jC_of (by decide +kernel) [(0, .ref (P.1 3)), (1, .int a1)] (Nat.le_of_ble_eq_true rfl) rfl (fun X o => ?_)
  obtain ⟨E, hE⟩ : ∃ E, E = jE X rm_X10_miss (jqi P (fun r M' N' => N = N' ∧ Q r M' )) := ⟨_, rfl⟩
  rw [← hE]
  unfold w_X10_miss at h
  refine j_aload_n o dX10_miss_0 rfl ?_
  refine j_iload_n o dX10_miss_1 rfl ?_
  refine j_putf o (M1 := upM M 3 3 a1) (N1 := N) (g := 3) (slot := 3) (ci := 10) (ty := .int) rfl jin_X10 tyX10_ok nmX10 (by decide) rfl rfl jf_X10_15 (by decide +kernel) rfl rfl (Nat.le_of_ble_eq_true rfl) (fun _ => rfl) (fun _ => rfl) (fun _ hj => upM_ne _ _ _ hj) (fun _ _ => rfl) dX10_miss_2 ?_
  refine j_iconst o (v := 0) dX10_miss_5 rfl ?_
  rw [hE]
  exact j_zret o rfl dX10_miss_6 ⟨_, rfl, rfl, rfl, h⟩

abbrev rm_X10_here : Room := { frames := 0, cells := 0, slots := 0, locals := 0 }
def w_X10_here (P : jP)  (M : jM) (Q : Int32 → Prop) : Prop :=
  ((M 3 2) < 0 → (
   Q 0
  )) ∧ (¬ (M 3 2) < 0 → (
   ((M 3 1) ≤ (M 3 2) → (
    Q 0
   )) ∧ (¬ (M 3 1) ≤ (M 3 2) → (
    vp_in (M 3 2) (160) ∧
    Q (M 17 (M 3 2).toNatClampNeg)
   ))
  ))
set_option maxRecDepth 20000 in
theorem c_X10_here (l : Launch) (P : jP)  (M : jM) (N : jN) (Q : Int32 → Prop) (h : w_X10_here P M Q) : jC l yX10_here cX10_here 1 (some .int) rm_X10_here LC [.ref (P.1 3)] P M N (jqi P (fun r M' N' => M = M' ∧ N = N' ∧ Q r )) := by
  refine jC_of (by decide +kernel) [(0, .ref (P.1 3))] (Nat.le_of_ble_eq_true rfl) rfl (fun X o => ?_)
  obtain ⟨E, hE⟩ : ∃ E, E = jE X rm_X10_here (jqi P (fun r M' N' => M = M' ∧ N = N' ∧ Q r )) := ⟨_, rfl⟩
  rw [← hE]
  unfold w_X10_here at h
  refine j_aload_n o dX10_here_0 rfl ?_
  refine j_getf o (g := 3) (slot := 2) (ci := 10) (v := .int (M 3 2)) rfl jin_X10 (by decide) rfl jf_X10_22 (fun _ => rfl) rfl dX10_here_1 ?_
  refine j_if_lt o (tgt := 30) dX10_here_4 (by decide) (fun c1 => ?_) (fun c1 => ?_)
  · replace h := h.1 c1
    refine j_iconst o (v := 0) dX10_here_30 rfl ?_
    rw [hE]
    exact j_iret o dX10_here_31 ⟨_, rfl, rfl, rfl, rfl, h⟩
  · replace h := h.2 c1
    refine j_aload_n o dX10_here_7 rfl ?_
    refine j_getf o (g := 3) (slot := 2) (ci := 10) (v := .int (M 3 2)) rfl jin_X10 (by decide) rfl jf_X10_22 (fun _ => rfl) rfl dX10_here_8 ?_
    refine j_aload_n o dX10_here_11 rfl ?_
    refine j_getf o (g := 3) (slot := 1) (ci := 10) (v := .int (M 3 1)) rfl jin_X10 (by decide) rfl jf_X10_19 (fun _ => rfl) rfl dX10_here_12 ?_
    refine j_icmp_ge o (tgt := 30) dX10_here_15 (by decide) (fun c2 => ?_) (fun c2 => ?_)
    · replace h := h.1 c2
      refine j_iconst o (v := 0) dX10_here_30 rfl ?_
      rw [hE]
      exact j_iret o dX10_here_31 ⟨_, rfl, rfl, rfl, rfl, h⟩
    · replace h := h.2 c2
      refine j_aload_n o dX10_here_18 rfl ?_
      refine j_getf o (g := 3) (slot := 0) (ci := 10) (v := .ref (P.1 17)) rfl jin_X10 (by decide) rfl jf_X10_9 (fun _ => rfl) rfl dX10_here_19 ?_
      refine j_aload_n o dX10_here_22 rfl ?_
      refine j_getf o (g := 3) (slot := 2) (ci := 10) (v := .int (M 3 2)) rfl jin_X10 (by decide) rfl jf_X10_22 (fun _ => rfl) rfl dX10_here_23 ?_
      obtain ⟨hb3, h⟩ := h
      refine j_iald o (g := 17) (fun _ => rfl) hb3 dX10_here_26 ?_
      refine j_goto o (tgt := 31) dX10_here_27 (by decide) ?_
      rw [hE]
      exact j_iret o dX10_here_31 ⟨_, rfl, rfl, rfl, rfl, h⟩

abbrev rm_X10_next : Room := { frames := 1, cells := 0, slots := 0, locals := 20 }
def w_X10_next (P : jP)  (M : jM) (Q : Int32 → jM → Prop) : Prop :=
  ∀ R2 : Int32 → jM → Prop, (∀ (x1 : Int32) (M2 : jM), (
   ∀ R34 : Prop, ((
    w_X10_here P M2 (fun r3 =>
    Q r3 M2)
   ) → R34) →
   (160 ≤ x1 → (
    R34
   )) ∧ (¬ 160 ≤ x1 → (
    w_X10_here P M2 (fun r7 =>
    (¬ r7 = 32 → (
     R34
    )) ∧ (r7 = 32 → (
     R2 (x1 + 1) (upM M2 3 2 ((M2 3 2) + 1))
    )))
   ))
  ) → R2 x1 M2) →
  R2 0 M
set_option maxRecDepth 20000 in
theorem c_X10_next (l : Launch) (P : jP)  (M : jM) (N : jN) (Q : Int32 → jM → Prop) (h : w_X10_next P M Q) : jC l yX10_next cX10_next 2 (some .int) rm_X10_next LC [.ref (P.1 3)] P M N (jqi P (fun r M' N' => N = N' ∧ Q r M' )) := by
  refine jC_of (by decide +kernel) [(0, .ref (P.1 3))] (Nat.le_of_ble_eq_true rfl) rfl (fun X o => ?_)
  obtain ⟨E, hE⟩ : ∃ E, E = jE X rm_X10_next (jqi P (fun r M' N' => N = N' ∧ Q r M' )) := ⟨_, rfl⟩
  rw [← hE]
  unfold w_X10_next at h
  refine j_iconst o (v := 0) dX10_next_0 rfl ?_
  refine j_istore_n o [(1, .int 0), (0, .ref (P.1 3))] dX10_next_1 (by decide) rfl ?_
  replace h := h (fun (x1 : Int32) (M2 : jM) => J X P M2 N 0 0 E 2 2 [(0, .ref (P.1 3)), (1, .int x1)] []) (by
    intro x1 M2 h
    refine j_iload_n o dX10_next_2 rfl ?_
    refine j_sipush o (v := 160) dX10_next_3 rfl ?_
    replace h := h (J X P M2 N 0 0 E 2 34 [(0, .ref (P.1 3))] []) (by
      intro h
      refine j_aload_n o dX10_next_34 rfl ?_
      refine j_callVi (g := 3) (ci := 10) o (c_X10_here l P M2 N _ h) dX10_next_35 jc_X10_25 jn_X10_here rfl rfl rfl (fun _ => rfl) rfl rfl (fun r3 Mz4 Nz5 h => ?_)
      obtain ⟨rfl, rfl, h⟩ := h
      rw [hE]
      exact j_iret o dX10_next_38 ⟨_, rfl, rfl, rfl, h⟩)
    refine j_icmp_ge o (tgt := 34) dX10_next_6 (by decide) (fun c6 => ?_) (fun c6 => ?_)
    · replace h := h.1 c6
      exact j_pick [0] rfl h
    · replace h := h.2 c6
      refine j_aload_n o dX10_next_9 rfl ?_
      refine j_callVi (g := 3) (ci := 10) o (c_X10_here l P M2 N _ h) dX10_next_10 jc_X10_25 jn_X10_here rfl rfl rfl (fun _ => rfl) rfl rfl (fun r7 Mz8 Nz9 h => ?_)
      obtain ⟨rfl, rfl, h⟩ := h
      refine j_bipush o (v := 32) dX10_next_13 rfl ?_
      refine j_icmp_ne o (tgt := 34) dX10_next_15 (by decide) (fun c10 => ?_) (fun c10 => ?_)
      · replace h := h.1 c10
        exact j_pick [0] rfl h
      · replace h := h.2 c10
        refine j_aload_n o dX10_next_18 rfl ?_
        refine j_dup o dX10_next_19 rfl ?_
        refine j_getf o (g := 3) (slot := 2) (ci := 10) (v := .int (M2 3 2)) rfl jin_X10 (by decide) rfl jf_X10_22 (fun _ => rfl) rfl dX10_next_20 ?_
        refine j_iconst o (v := 1) dX10_next_23 rfl ?_
        refine j_iadd o dX10_next_24 ?_
        refine j_putf o (M1 := upM M2 3 2 ((M2 3 2) + 1)) (N1 := N) (g := 3) (slot := 2) (ci := 10) (ty := .int) rfl jin_X10 tyX10_ok nmX10 (by decide) rfl rfl jf_X10_22 (by decide +kernel) rfl rfl (Nat.le_of_ble_eq_true rfl) (fun _ => rfl) (fun _ => rfl) (fun _ hj => upM_ne _ _ _ hj) (fun _ _ => rfl) dX10_next_25 ?_
        refine j_iinc o (v := x1 + 1) [(1, .int (x1 + 1)), (0, .ref (P.1 3))] dX10_next_28 rfl rfl (by decide) rfl ?_
        refine j_goto o (tgt := 2) dX10_next_31 (by decide) ?_
        exact j_pick [1, 0] rfl h)
  exact j_pick [1, 0] rfl h

abbrev rm_X10_rewind : Room := { frames := 0, cells := 0, slots := 0, locals := 0 }
def w_X10_rewind (P : jP)  (M : jM) (Q : jM → Prop) : Prop :=
  Q (upM (upM M 3 2 0) 3 3 (-1))
set_option maxRecDepth 20000 in
theorem c_X10_rewind (l : Launch) (P : jP)  (M : jM) (N : jN) (Q : jM → Prop) (h : w_X10_rewind P M Q) : jC l yX10_rewind cX10_rewind 1 none rm_X10_rewind LC [.ref (P.1 3)] P M N (jqv P (fun M' N' => N = N' ∧ Q M' )) := by
  refine jC_of (by decide +kernel) [(0, .ref (P.1 3))] (Nat.le_of_ble_eq_true rfl) rfl (fun X o => ?_)
  obtain ⟨E, hE⟩ : ∃ E, E = jE X rm_X10_rewind (jqv P (fun M' N' => N = N' ∧ Q M' )) := ⟨_, rfl⟩
  rw [← hE]
  unfold w_X10_rewind at h
  refine j_aload_n o dX10_rewind_0 rfl ?_
  refine j_iconst o (v := 0) dX10_rewind_1 rfl ?_
  refine j_putf o (M1 := upM M 3 2 0) (N1 := N) (g := 3) (slot := 2) (ci := 10) (ty := .int) rfl jin_X10 tyX10_ok nmX10 (by decide) rfl rfl jf_X10_22 (by decide +kernel) rfl rfl (Nat.le_of_ble_eq_true rfl) (fun _ => rfl) (fun _ => rfl) (fun _ hj => upM_ne _ _ _ hj) (fun _ _ => rfl) dX10_rewind_2 ?_
  refine j_aload_n o dX10_rewind_5 rfl ?_
  refine j_iconst o (v := (-1)) dX10_rewind_6 rfl ?_
  refine j_putf o (M1 := upM (upM M 3 2 0) 3 3 (-1)) (N1 := N) (g := 3) (slot := 3) (ci := 10) (ty := .int) rfl jin_X10 tyX10_ok nmX10 (by decide) rfl rfl jf_X10_15 (by decide +kernel) rfl rfl (Nat.le_of_ble_eq_true rfl) (fun _ => rfl) (fun _ => rfl) (fun _ hj => upM_ne _ _ _ hj) (fun _ _ => rfl) dX10_rewind_7 ?_
  rw [hE]
  exact j_vret o dX10_rewind_10 ⟨rfl, rfl, rfl, h⟩

abbrev rm_X10_passes : Room := { frames := 2, cells := 0, slots := 0, locals := 41 }
def w_X10_passes (P : jP) (a1 : Int32) (M : jM) (Q : Int32 → jM → Prop) : Prop :=
  w_X10_next P M (fun r1 M2 =>
  (r1 = a1 → (
   Q 1 (upM M2 3 2 ((M2 3 2) + 1))
  )) ∧ (¬ r1 = a1 → (
   Q 0 M2
  )))
set_option maxRecDepth 20000 in
theorem c_X10_passes (l : Launch) (P : jP) (a1 : Int32) (M : jM) (N : jN) (Q : Int32 → jM → Prop) (h : w_X10_passes P a1 M Q) : jC l yX10_passes cX10_passes 2 (some .boolean) rm_X10_passes LC [.ref (P.1 3), .int a1] P M N (jqi P (fun r M' N' => N = N' ∧ Q r M' )) := by
  refine jC_of (by decide +kernel) [(0, .ref (P.1 3)), (1, .int a1)] (Nat.le_of_ble_eq_true rfl) rfl (fun X o => ?_)
  obtain ⟨E, hE⟩ : ∃ E, E = jE X rm_X10_passes (jqi P (fun r M' N' => N = N' ∧ Q r M' )) := ⟨_, rfl⟩
  rw [← hE]
  unfold w_X10_passes at h
  refine j_aload_n o dX10_passes_0 rfl ?_
  refine j_callVi (g := 3) (ci := 10) o (c_X10_next l P M N _ h) dX10_passes_1 jc_X10_29 jn_X10_next rfl rfl rfl (fun _ => rfl) rfl rfl (fun r1 M2 Nz3 h => ?_)
  obtain ⟨rfl, h⟩ := h
  refine j_iload_n o dX10_passes_4 rfl ?_
  refine j_icmp_eq o (tgt := 10) dX10_passes_5 (by decide) (fun c4 => ?_) (fun c4 => ?_)
  · replace h := h.1 c4
    refine j_aload_n o dX10_passes_10 rfl ?_
    refine j_dup o dX10_passes_11 rfl ?_
    refine j_getf o (g := 3) (slot := 2) (ci := 10) (v := .int (M2 3 2)) rfl jin_X10 (by decide) rfl jf_X10_22 (fun _ => rfl) rfl dX10_passes_12 ?_
    refine j_iconst o (v := 1) dX10_passes_15 rfl ?_
    refine j_iadd o dX10_passes_16 ?_
    refine j_putf o (M1 := upM M2 3 2 ((M2 3 2) + 1)) (N1 := N) (g := 3) (slot := 2) (ci := 10) (ty := .int) rfl jin_X10 tyX10_ok nmX10 (by decide) rfl rfl jf_X10_22 (by decide +kernel) rfl rfl (Nat.le_of_ble_eq_true rfl) (fun _ => rfl) (fun _ => rfl) (fun _ hj => upM_ne _ _ _ hj) (fun _ _ => rfl) dX10_passes_17 ?_
    refine j_iconst o (v := 1) dX10_passes_20 rfl ?_
    rw [hE]
    exact j_zret o rfl dX10_passes_21 ⟨_, rfl, rfl, rfl, h⟩
  · replace h := h.2 c4
    refine j_iconst o (v := 0) dX10_passes_8 rfl ?_
    rw [hE]
    exact j_zret o rfl dX10_passes_9 ⟨_, rfl, rfl, rfl, h⟩

abbrev rm_X10_needs : Room := { frames := 3, cells := 0, slots := 0, locals := 62 }
def w_X10_needs (P : jP) (a1 : Int32) (M : jM) (Q : Int32 → jM → Prop) : Prop :=
  w_X10_passes P a1 M (fun r1 M2 =>
  (¬ r1 = 0 → (
   Q 1 M2
  )) ∧ (r1 = 0 → (
   w_X10_miss P (M2 3 2) M2 (fun r5 M6 =>
   (r5 = 0 → (
    Q 0 M6
   )) ∧ (¬ r5 = 0 → (
    Q 1 M6
   )))
  )))
set_option maxRecDepth 20000 in
theorem c_X10_needs (l : Launch) (P : jP) (a1 : Int32) (M : jM) (N : jN) (Q : Int32 → jM → Prop) (h : w_X10_needs P a1 M Q) : jC l yX10_needs cX10_needs 2 (some .boolean) rm_X10_needs LC [.ref (P.1 3), .int a1] P M N (jqi P (fun r M' N' => N = N' ∧ Q r M' )) := by
  refine jC_of (by decide +kernel) [(0, .ref (P.1 3)), (1, .int a1)] (Nat.le_of_ble_eq_true rfl) rfl (fun X o => ?_)
  obtain ⟨E, hE⟩ : ∃ E, E = jE X rm_X10_needs (jqi P (fun r M' N' => N = N' ∧ Q r M' )) := ⟨_, rfl⟩
  rw [← hE]
  unfold w_X10_needs at h
  refine j_aload_n o dX10_needs_0 rfl ?_
  refine j_iload_n o dX10_needs_1 rfl ?_
  refine j_callVi (g := 3) (ci := 10) o (c_X10_passes l P a1 M N _ h) dX10_needs_2 jc_X10_32 jn_X10_passes rfl rfl rfl (fun _ => rfl) rfl rfl (fun r1 M2 Nz3 h => ?_)
  obtain ⟨rfl, h⟩ := h
  refine j_if_ne o (tgt := 19) dX10_needs_5 (by decide) (fun c4 => ?_) (fun c4 => ?_)
  · replace h := h.1 c4
    refine j_iconst o (v := 1) dX10_needs_19 rfl ?_
    refine j_goto o (tgt := 24) dX10_needs_20 (by decide) ?_
    rw [hE]
    exact j_zret o rfl dX10_needs_24 ⟨_, rfl, rfl, rfl, h⟩
  · replace h := h.2 c4
    refine j_aload_n o dX10_needs_8 rfl ?_
    refine j_aload_n o dX10_needs_9 rfl ?_
    refine j_getf o (g := 3) (slot := 2) (ci := 10) (v := .int (M2 3 2)) rfl jin_X10 (by decide) rfl jf_X10_22 (fun _ => rfl) rfl dX10_needs_10 ?_
    refine j_callVi (g := 3) (ci := 10) o (c_X10_miss l P (M2 3 2) M2 N _ h) dX10_needs_13 jc_X10_36 jn_X10_miss rfl rfl rfl (fun _ => rfl) rfl rfl (fun r5 M6 Nz7 h => ?_)
    obtain ⟨rfl, h⟩ := h
    refine j_if_eq o (tgt := 23) dX10_needs_16 (by decide) (fun c8 => ?_) (fun c8 => ?_)
    · replace h := h.1 c8
      refine j_iconst o (v := 0) dX10_needs_23 rfl ?_
      rw [hE]
      exact j_zret o rfl dX10_needs_24 ⟨_, rfl, rfl, rfl, h⟩
    · replace h := h.2 c8
      refine j_iconst o (v := 1) dX10_needs_19 rfl ?_
      refine j_goto o (tgt := 24) dX10_needs_20 (by decide) ?_
      rw [hE]
      exact j_zret o rfl dX10_needs_24 ⟨_, rfl, rfl, rfl, h⟩

abbrev rm_X7_emit : Room := { frames := 1, cells := 0, slots := 0, locals := 21 }
def w_X7_emit (P : jP) (a1 : Int32) (M : jM) (Q : Int32 → jM → Prop) : Prop :=
  ((M 4 3) < 160 → (
   vp_in (M 4 3) (160) ∧
   ∀ M3 : jM, M3 = upM (upM M 4 3 ((M 4 3) + 1)) 18 (M 4 3).toNatClampNeg a1 →
   Q 1 M3
  )) ∧ (¬ (M 4 3) < 160 → (
   w_X10_miss P (M 3 2) M (fun r4 M5 =>
   jb r4 ∧
   Q r4 M5)
  ))
set_option maxRecDepth 20000 in
theorem c_X7_emit (l : Launch) (P : jP) (a1 : Int32) (M : jM) (N : jN) (Q : Int32 → jM → Prop) (h : w_X7_emit P a1 M Q) : jC l yX7_emit cX7_emit 2 (some .boolean) rm_X7_emit LC [.ref (P.1 4), .int a1] P M N (jqi P (fun r M' N' => N = N' ∧ Q r M' )) := by
  refine jC_of (by decide +kernel) [(0, .ref (P.1 4)), (1, .int a1)] (Nat.le_of_ble_eq_true rfl) rfl (fun X o => ?_)
  obtain ⟨E, hE⟩ : ∃ E, E = jE X rm_X7_emit (jqi P (fun r M' N' => N = N' ∧ Q r M' )) := ⟨_, rfl⟩
  rw [← hE]
  unfold w_X7_emit at h
  refine j_aload_n o dX7_emit_0 rfl ?_
  refine j_getf o (g := 4) (slot := 3) (ci := 7) (v := .int (M 4 3)) rfl jin_X7 (by decide) rfl jf_X7_47 (fun _ => rfl) rfl dX7_emit_1 ?_
  refine j_sipush o (v := 160) dX7_emit_4 rfl ?_
  refine j_icmp_lt o (tgt := 25) dX7_emit_7 (by decide) (fun c1 => ?_) (fun c1 => ?_)
  · replace h := h.1 c1
    refine j_aload_n o dX7_emit_25 rfl ?_
    refine j_getf o (g := 4) (slot := 2) (ci := 7) (v := .ref (P.1 18)) rfl jin_X7 (by decide) rfl jf_X7_9 (fun _ => rfl) rfl dX7_emit_26 ?_
    refine j_aload_n o dX7_emit_29 rfl ?_
    refine j_dup o dX7_emit_30 rfl ?_
    refine j_getf o (g := 4) (slot := 3) (ci := 7) (v := .int (M 4 3)) rfl jin_X7 (by decide) rfl jf_X7_47 (fun _ => rfl) rfl dX7_emit_31 ?_
    refine j_dup_x1 o dX7_emit_34 rfl rfl ?_
    refine j_iconst o (v := 1) dX7_emit_35 rfl ?_
    refine j_iadd o dX7_emit_36 ?_
    refine j_putf o (M1 := upM M 4 3 ((M 4 3) + 1)) (N1 := N) (g := 4) (slot := 3) (ci := 7) (ty := .int) rfl jin_X7 tyX7_ok nmX7 (by decide) rfl rfl jf_X7_47 (by decide +kernel) rfl rfl (Nat.le_of_ble_eq_true rfl) (fun _ => rfl) (fun _ => rfl) (fun _ hj => upM_ne _ _ _ hj) (fun _ _ => rfl) dX7_emit_37 ?_
    refine j_iload_n o dX7_emit_40 rfl ?_
    obtain ⟨hb2, h⟩ := h
    refine j_iast o (g := 18) (fun _ _ _ => rfl) hb2 dX7_emit_41 ?_
    refine j_nameM (fun M3 hM3 => ?_)
    replace h := h M3 hM3
    refine j_iconst o (v := 1) dX7_emit_42 rfl ?_
    rw [hE]
    exact j_zret o rfl dX7_emit_43 ⟨_, rfl, rfl, rfl, h⟩
  · replace h := h.2 c1
    refine j_aload_n o dX7_emit_10 rfl ?_
    refine j_getf o (g := 4) (slot := 0) (ci := 7) (v := .ref (P.1 3)) rfl jin_X7 (by decide) rfl jf_X7_34 (fun _ => rfl) rfl dX7_emit_11 ?_
    refine j_aload_n o dX7_emit_14 rfl ?_
    refine j_getf o (g := 4) (slot := 0) (ci := 7) (v := .ref (P.1 3)) rfl jin_X7 (by decide) rfl jf_X7_34 (fun _ => rfl) rfl dX7_emit_15 ?_
    refine j_getf o (g := 3) (slot := 2) (ci := 10) (v := .int (M 3 2)) rfl jin_X10 (by decide) rfl jf_X7_64 (fun _ => rfl) rfl dX7_emit_18 ?_
    refine j_callVi (g := 3) (ci := 10) o (c_X10_miss l P (M 3 2) M N _ h) dX7_emit_21 jc_X7_67 jn_X10_miss rfl rfl rfl (fun _ => rfl) rfl rfl (fun r4 M5 Nz6 h => ?_)
    obtain ⟨rfl, h⟩ := h
    obtain ⟨hz7, h⟩ := h
    rw [hE]
    exact j_zret o hz7.1 dX7_emit_24 ⟨_, rfl, rfl, rfl, h⟩

abbrev rm_X7_atLeast : Room := { frames := 0, cells := 0, slots := 0, locals := 0 }
def w_X7_atLeast (P : jP) (a1 : Int32) (a2 : Int32) (Q : Int32 → Prop) : Prop :=
  Q ((((a1 <<< (9 &&& 31)) ||| a2) <<< (2 &&& 31)) ||| 0)
set_option maxRecDepth 20000 in
theorem c_X7_atLeast (l : Launch) (P : jP) (a1 : Int32) (a2 : Int32) (M : jM) (N : jN) (Q : Int32 → Prop) (h : w_X7_atLeast P a1 a2 Q) : jC l yX7_atLeast cX7_atLeast 2 (some .int) rm_X7_atLeast LC [.int a1, .int a2] P M N (jqi P (fun r M' N' => M = M' ∧ N = N' ∧ Q r )) := by
  refine jC_of (by decide +kernel) [(0, .int a1), (1, .int a2)] (Nat.le_of_ble_eq_true rfl) rfl (fun X o => ?_)
  obtain ⟨E, hE⟩ : ∃ E, E = jE X rm_X7_atLeast (jqi P (fun r M' N' => M = M' ∧ N = N' ∧ Q r )) := ⟨_, rfl⟩
  rw [← hE]
  unfold w_X7_atLeast at h
  refine j_iload_n o dX7_atLeast_0 rfl ?_
  refine j_bipush o (v := 9) dX7_atLeast_1 rfl ?_
  refine j_ishl o dX7_atLeast_3 ?_
  refine j_iload_n o dX7_atLeast_4 rfl ?_
  refine j_ior o dX7_atLeast_5 ?_
  refine j_iconst o (v := 2) dX7_atLeast_6 rfl ?_
  refine j_ishl o dX7_atLeast_7 ?_
  refine j_iconst o (v := 0) dX7_atLeast_8 rfl ?_
  refine j_ior o dX7_atLeast_9 ?_
  rw [hE]
  exact j_iret o dX7_atLeast_10 ⟨_, rfl, rfl, rfl, rfl, h⟩

abbrev rm_X7_isLetter : Room := { frames := 0, cells := 0, slots := 0, locals := 0 }
def w_X7_isLetter (P : jP) (a1 : Int32) (M : jM) (Q : Int32 → Prop) : Prop :=
  (a1 < 97 → (
   Q 0
  )) ∧ (¬ a1 < 97 → (
   ((97 + (M 4 1)) ≤ a1 → (
    Q 0
   )) ∧ (¬ (97 + (M 4 1)) ≤ a1 → (
    Q 1
   ))
  ))
set_option maxRecDepth 20000 in
theorem c_X7_isLetter (l : Launch) (P : jP) (a1 : Int32) (M : jM) (N : jN) (Q : Int32 → Prop) (h : w_X7_isLetter P a1 M Q) : jC l yX7_isLetter cX7_isLetter 2 (some .boolean) rm_X7_isLetter LC [.ref (P.1 4), .int a1] P M N (jqi P (fun r M' N' => M = M' ∧ N = N' ∧ Q r )) := by
  refine jC_of (by decide +kernel) [(0, .ref (P.1 4)), (1, .int a1)] (Nat.le_of_ble_eq_true rfl) rfl (fun X o => ?_)
  obtain ⟨E, hE⟩ : ∃ E, E = jE X rm_X7_isLetter (jqi P (fun r M' N' => M = M' ∧ N = N' ∧ Q r )) := ⟨_, rfl⟩
  rw [← hE]
  unfold w_X7_isLetter at h
  refine j_iload_n o dX7_isLetter_0 rfl ?_
  refine j_bipush o (v := 97) dX7_isLetter_1 rfl ?_
  refine j_icmp_lt o (tgt := 21) dX7_isLetter_3 (by decide) (fun c1 => ?_) (fun c1 => ?_)
  · replace h := h.1 c1
    refine j_iconst o (v := 0) dX7_isLetter_21 rfl ?_
    rw [hE]
    exact j_zret o rfl dX7_isLetter_22 ⟨_, rfl, rfl, rfl, rfl, h⟩
  · replace h := h.2 c1
    refine j_iload_n o dX7_isLetter_6 rfl ?_
    refine j_bipush o (v := 97) dX7_isLetter_7 rfl ?_
    refine j_aload_n o dX7_isLetter_9 rfl ?_
    refine j_getf o (g := 4) (slot := 1) (ci := 7) (v := .int (M 4 1)) rfl jin_X7 (by decide) rfl jf_X7_38 (fun _ => rfl) rfl dX7_isLetter_10 ?_
    refine j_iadd o dX7_isLetter_13 ?_
    refine j_icmp_ge o (tgt := 21) dX7_isLetter_14 (by decide) (fun c2 => ?_) (fun c2 => ?_)
    · replace h := h.1 c2
      refine j_iconst o (v := 0) dX7_isLetter_21 rfl ?_
      rw [hE]
      exact j_zret o rfl dX7_isLetter_22 ⟨_, rfl, rfl, rfl, rfl, h⟩
    · replace h := h.2 c2
      refine j_iconst o (v := 1) dX7_isLetter_17 rfl ?_
      refine j_goto o (tgt := 22) dX7_isLetter_18 (by decide) ?_
      rw [hE]
      exact j_zret o rfl dX7_isLetter_22 ⟨_, rfl, rfl, rfl, rfl, h⟩

abbrev rm_X7_several : Room := { frames := 2, cells := 0, slots := 0, locals := 42 }
def w_X7_several (P : jP) (a1 : Int32) (M : jM) (Q : Int32 → jM → Prop) : Prop :=
  w_X10_here P (upM M 3 2 ((M 3 2) + 1)) (fun r1 =>
  (r1 = 35 → (
   ∀ M5 : jM, M5 = upM (upM M 3 2 ((M 3 2) + 1)) 3 2 (((upM M 3 2 ((M 3 2) + 1)) 3 2) + 1) →
   ∀ R57 : Int32 → Int32 → jM → Prop, (∀ (x6 : Int32) (x7 : Int32) (M8 : jM), (
    ∀ R137 : jM → Prop, (∀ (M9 : jM), (
     (¬ x6 = 0 → (
      w_X7_atLeast P a1 x6 (fun r11 =>
      w_X7_emit P r11 M9 (fun r14 M15 =>
      jb r14 ∧
      Q r14 M15))
     )) ∧ (x6 = 0 → (
      w_X10_miss P (M9 3 2) M9 (fun r18 M19 =>
      jb r18 ∧
      Q r18 M19)
     ))
    ) → R137 M9) →
    (9 < x7 → (
     R137 M8
    )) ∧ (¬ 9 < x7 → (
     w_X10_next P M8 (fun r23 M24 =>
     w_X7_isLetter P r23 M24 (fun r26 =>
     (r26 = 0 → (
      R137 M24
     )) ∧ (¬ r26 = 0 → (
      w_X10_here P M24 (fun r30 =>
      ((x6 &&& ((1 : Int32) <<< ((r30 - 97) &&& 31))) = 0 → (
       R57 (x6 ||| ((1 : Int32) <<< ((r30 - 97) &&& 31))) (x7 + 1) (upM M24 3 2 ((M24 3 2) + 1))
      )) ∧ (¬ (x6 &&& ((1 : Int32) <<< ((r30 - 97) &&& 31))) = 0 → (
       w_X10_miss P (M24 3 2) M24 (fun r34 M35 =>
       jb r34 ∧
       Q r34 M35)
      )))
     ))))
    ))
   ) → R57 x6 x7 M8) →
   R57 0 0 M5
  )) ∧ (¬ r1 = 35 → (
   w_X10_miss P ((upM M 3 2 ((M 3 2) + 1)) 3 2) (upM M 3 2 ((M 3 2) + 1)) (fun r38 M39 =>
   jb r38 ∧
   Q r38 M39)
  )))
set_option maxRecDepth 20000 in
theorem c_X7_several (l : Launch) (P : jP) (a1 : Int32) (M : jM) (N : jN) (Q : Int32 → jM → Prop) (h : w_X7_several P a1 M Q) : jC l yX7_several cX7_several 5 (some .boolean) rm_X7_several LC [.ref (P.1 4), .int a1] P M N (jqi P (fun r M' N' => N = N' ∧ Q r M' )) := by
  refine jC_of (by decide +kernel) [(0, .ref (P.1 4)), (1, .int a1)] (Nat.le_of_ble_eq_true rfl) rfl (fun X o => ?_)
  obtain ⟨E, hE⟩ : ∃ E, E = jE X rm_X7_several (jqi P (fun r M' N' => N = N' ∧ Q r M' )) := ⟨_, rfl⟩
  rw [← hE]
  unfold w_X7_several at h
  refine j_aload_n o dX7_several_0 rfl ?_
  refine j_getf o (g := 4) (slot := 0) (ci := 7) (v := .ref (P.1 3)) rfl jin_X7 (by decide) rfl jf_X7_34 (fun _ => rfl) rfl dX7_several_1 ?_
  refine j_dup o dX7_several_4 rfl ?_
  refine j_getf o (g := 3) (slot := 2) (ci := 10) (v := .int (M 3 2)) rfl jin_X10 (by decide) rfl jf_X7_64 (fun _ => rfl) rfl dX7_several_5 ?_
  refine j_iconst o (v := 1) dX7_several_8 rfl ?_
  refine j_iadd o dX7_several_9 ?_
  refine j_putf o (M1 := upM M 3 2 ((M 3 2) + 1)) (N1 := N) (g := 3) (slot := 2) (ci := 10) (ty := .int) rfl jin_X10 tyX10_ok nmX10 (by decide) rfl rfl jf_X7_64 (by decide +kernel) rfl rfl (Nat.le_of_ble_eq_true rfl) (fun _ => rfl) (fun _ => rfl) (fun _ hj => upM_ne _ _ _ hj) (fun _ _ => rfl) dX7_several_10 ?_
  refine j_aload_n o dX7_several_13 rfl ?_
  refine j_getf o (g := 4) (slot := 0) (ci := 7) (v := .ref (P.1 3)) rfl jin_X7 (by decide) rfl jf_X7_34 (fun _ => rfl) rfl dX7_several_14 ?_
  refine j_callVi (g := 3) (ci := 10) o (c_X10_here l P (upM M 3 2 ((M 3 2) + 1)) N _ h) dX7_several_17 jc_X7_115 jn_X10_here rfl rfl rfl (fun _ => rfl) rfl rfl (fun r1 Mz2 Nz3 h => ?_)
  obtain ⟨rfl, rfl, h⟩ := h
  refine j_bipush o (v := 35) dX7_several_20 rfl ?_
  refine j_icmp_eq o (tgt := 40) dX7_several_22 (by decide) (fun c4 => ?_) (fun c4 => ?_)
  · replace h := h.1 c4
    refine j_aload_n o dX7_several_40 rfl ?_
    refine j_getf o (g := 4) (slot := 0) (ci := 7) (v := .ref (P.1 3)) rfl jin_X7 (by decide) rfl jf_X7_34 (fun _ => rfl) rfl dX7_several_41 ?_
    refine j_dup o dX7_several_44 rfl ?_
    refine j_getf o (g := 3) (slot := 2) (ci := 10) (v := .int ((upM M 3 2 ((M 3 2) + 1)) 3 2)) rfl jin_X10 (by decide) rfl jf_X7_64 (fun _ => rfl) rfl dX7_several_45 ?_
    refine j_iconst o (v := 1) dX7_several_48 rfl ?_
    refine j_iadd o dX7_several_49 ?_
    refine j_putf o (M1 := upM (upM M 3 2 ((M 3 2) + 1)) 3 2 (((upM M 3 2 ((M 3 2) + 1)) 3 2) + 1)) (N1 := N) (g := 3) (slot := 2) (ci := 10) (ty := .int) rfl jin_X10 tyX10_ok nmX10 (by decide) rfl rfl jf_X7_64 (by decide +kernel) rfl rfl (Nat.le_of_ble_eq_true rfl) (fun _ => rfl) (fun _ => rfl) (fun _ hj => upM_ne _ _ _ hj) (fun _ _ => rfl) dX7_several_50 ?_
    refine j_nameM (fun M5 hM5 => ?_)
    replace h := h M5 hM5
    refine j_iconst o (v := 0) dX7_several_53 rfl ?_
    refine j_istore_n o [(2, .int 0), (0, .ref (P.1 4)), (1, .int a1)] dX7_several_54 (by decide) rfl ?_
    refine j_iconst o (v := 0) dX7_several_55 rfl ?_
    refine j_istore_n o [(3, .int 0), (2, .int 0), (0, .ref (P.1 4)), (1, .int a1)] dX7_several_56 (by decide) rfl ?_
    replace h := h (fun (x6 : Int32) (x7 : Int32) (M8 : jM) => J X P M8 N 0 0 E 5 57 [(0, .ref (P.1 4)), (1, .int a1), (2, .int x6), (3, .int x7)] []) (by
      intro x6 x7 M8 h
      refine j_iload_n o dX7_several_57 rfl ?_
      refine j_bipush o (v := 9) dX7_several_58 rfl ?_
      replace h := h (fun (M9 : jM) => J X P M9 N 0 0 E 5 137 [(0, .ref (P.1 4)), (1, .int a1), (2, .int x6)] []) (by
        intro M9 h
        refine j_iload_n o dX7_several_137 rfl ?_
        refine j_if_ne o (tgt := 158) dX7_several_138 (by decide) (fun c10 => ?_) (fun c10 => ?_)
        · replace h := h.1 c10
          refine j_aload_n o dX7_several_158 rfl ?_
          refine j_iload_n o dX7_several_159 rfl ?_
          refine j_iload_n o dX7_several_160 rfl ?_
          refine j_callSi o (c_X7_atLeast l P a1 x6 M9 N _ h) dX7_several_161 jc_X7_111 jn_X7_atLeast rfl rfl rfl rfl (fun r11 Mz12 Nz13 h => ?_)
          obtain ⟨rfl, rfl, h⟩ := h
          refine j_callVi (g := 4) (ci := 7) o (c_X7_emit l P r11 M9 N _ h) dX7_several_164 jc_X7_95 jn_X7_emit rfl rfl rfl (fun _ => rfl) rfl rfl (fun r14 M15 Nz16 h => ?_)
          obtain ⟨rfl, h⟩ := h
          obtain ⟨hz17, h⟩ := h
          rw [hE]
          exact j_zret o hz17.1 dX7_several_167 ⟨_, rfl, rfl, rfl, h⟩
        · replace h := h.2 c10
          refine j_aload_n o dX7_several_141 rfl ?_
          refine j_getf o (g := 4) (slot := 0) (ci := 7) (v := .ref (P.1 3)) rfl jin_X7 (by decide) rfl jf_X7_34 (fun _ => rfl) rfl dX7_several_142 ?_
          refine j_aload_n o dX7_several_145 rfl ?_
          refine j_getf o (g := 4) (slot := 0) (ci := 7) (v := .ref (P.1 3)) rfl jin_X7 (by decide) rfl jf_X7_34 (fun _ => rfl) rfl dX7_several_146 ?_
          refine j_getf o (g := 3) (slot := 2) (ci := 10) (v := .int (M9 3 2)) rfl jin_X10 (by decide) rfl jf_X7_64 (fun _ => rfl) rfl dX7_several_149 ?_
          refine j_callVi (g := 3) (ci := 10) o (c_X10_miss l P (M9 3 2) M9 N _ h) dX7_several_152 jc_X7_67 jn_X10_miss rfl rfl rfl (fun _ => rfl) rfl rfl (fun r18 M19 Nz20 h => ?_)
          obtain ⟨rfl, h⟩ := h
          refine j_goto o (tgt := 167) dX7_several_155 (by decide) ?_
          obtain ⟨hz21, h⟩ := h
          rw [hE]
          exact j_zret o hz21.1 dX7_several_167 ⟨_, rfl, rfl, rfl, h⟩)
      refine j_icmp_gt o (tgt := 137) dX7_several_60 (by decide) (fun c22 => ?_) (fun c22 => ?_)
      · replace h := h.1 c22
        exact j_pick [0, 1, 2] rfl h
      · replace h := h.2 c22
        refine j_aload_n o dX7_several_63 rfl ?_
        refine j_aload_n o dX7_several_64 rfl ?_
        refine j_getf o (g := 4) (slot := 0) (ci := 7) (v := .ref (P.1 3)) rfl jin_X7 (by decide) rfl jf_X7_34 (fun _ => rfl) rfl dX7_several_65 ?_
        refine j_callVi (g := 3) (ci := 10) o (c_X10_next l P M8 N _ h) dX7_several_68 jc_X7_60 jn_X10_next rfl rfl rfl (fun _ => rfl) rfl rfl (fun r23 M24 Nz25 h => ?_)
        obtain ⟨rfl, h⟩ := h
        refine j_callVi (g := 4) (ci := 7) o (c_X7_isLetter l P r23 M24 N _ h) dX7_several_71 jc_X7_108 jn_X7_isLetter rfl rfl rfl (fun _ => rfl) rfl rfl (fun r26 Mz27 Nz28 h => ?_)
        obtain ⟨rfl, rfl, h⟩ := h
        refine j_if_eq o (tgt := 137) dX7_several_74 (by decide) (fun c29 => ?_) (fun c29 => ?_)
        · replace h := h.1 c29
          exact j_pick [0, 1, 2] rfl h
        · replace h := h.2 c29
          refine j_iconst o (v := 1) dX7_several_77 rfl ?_
          refine j_aload_n o dX7_several_78 rfl ?_
          refine j_getf o (g := 4) (slot := 0) (ci := 7) (v := .ref (P.1 3)) rfl jin_X7 (by decide) rfl jf_X7_34 (fun _ => rfl) rfl dX7_several_79 ?_
          refine j_callVi (g := 3) (ci := 10) o (c_X10_here l P M24 N _ h) dX7_several_82 jc_X7_115 jn_X10_here rfl rfl rfl (fun _ => rfl) rfl rfl (fun r30 Mz31 Nz32 h => ?_)
          obtain ⟨rfl, rfl, h⟩ := h
          refine j_bipush o (v := 97) dX7_several_85 rfl ?_
          refine j_isub o dX7_several_87 ?_
          refine j_ishl o dX7_several_88 ?_
          refine j_istore o [(4, .int ((1 : Int32) <<< ((r30 - 97) &&& 31))), (0, .ref (P.1 4)), (1, .int a1), (2, .int x6), (3, .int x7)] dX7_several_89 (by decide) rfl ?_
          refine j_iload_n o dX7_several_91 rfl ?_
          refine j_iload o dX7_several_92 rfl ?_
          refine j_iand o dX7_several_94 ?_
          refine j_if_eq o (tgt := 113) dX7_several_95 (by decide) (fun c33 => ?_) (fun c33 => ?_)
          · replace h := h.1 c33
            refine j_iload_n o dX7_several_113 rfl ?_
            refine j_iload o dX7_several_114 rfl ?_
            refine j_ior o dX7_several_116 ?_
            refine j_istore_n o [(2, .int (x6 ||| ((1 : Int32) <<< ((r30 - 97) &&& 31)))), (4, .int ((1 : Int32) <<< ((r30 - 97) &&& 31))), (0, .ref (P.1 4)), (1, .int a1), (3, .int x7)] dX7_several_117 (by decide) rfl ?_
            refine j_aload_n o dX7_several_118 rfl ?_
            refine j_getf o (g := 4) (slot := 0) (ci := 7) (v := .ref (P.1 3)) rfl jin_X7 (by decide) rfl jf_X7_34 (fun _ => rfl) rfl dX7_several_119 ?_
            refine j_dup o dX7_several_122 rfl ?_
            refine j_getf o (g := 3) (slot := 2) (ci := 10) (v := .int (M24 3 2)) rfl jin_X10 (by decide) rfl jf_X7_64 (fun _ => rfl) rfl dX7_several_123 ?_
            refine j_iconst o (v := 1) dX7_several_126 rfl ?_
            refine j_iadd o dX7_several_127 ?_
            refine j_putf o (M1 := upM M24 3 2 ((M24 3 2) + 1)) (N1 := N) (g := 3) (slot := 2) (ci := 10) (ty := .int) rfl jin_X10 tyX10_ok nmX10 (by decide) rfl rfl jf_X7_64 (by decide +kernel) rfl rfl (Nat.le_of_ble_eq_true rfl) (fun _ => rfl) (fun _ => rfl) (fun _ hj => upM_ne _ _ _ hj) (fun _ _ => rfl) dX7_several_128 ?_
            refine j_iinc o (v := x7 + 1) [(3, .int (x7 + 1)), (2, .int (x6 ||| ((1 : Int32) <<< ((r30 - 97) &&& 31)))), (4, .int ((1 : Int32) <<< ((r30 - 97) &&& 31))), (0, .ref (P.1 4)), (1, .int a1)] dX7_several_131 rfl rfl (by decide) rfl ?_
            refine j_goto o (tgt := 57) dX7_several_134 (by decide) ?_
            exact j_pick [3, 4, 1, 0] rfl h
          · replace h := h.2 c33
            refine j_aload_n o dX7_several_98 rfl ?_
            refine j_getf o (g := 4) (slot := 0) (ci := 7) (v := .ref (P.1 3)) rfl jin_X7 (by decide) rfl jf_X7_34 (fun _ => rfl) rfl dX7_several_99 ?_
            refine j_aload_n o dX7_several_102 rfl ?_
            refine j_getf o (g := 4) (slot := 0) (ci := 7) (v := .ref (P.1 3)) rfl jin_X7 (by decide) rfl jf_X7_34 (fun _ => rfl) rfl dX7_several_103 ?_
            refine j_getf o (g := 3) (slot := 2) (ci := 10) (v := .int (M24 3 2)) rfl jin_X10 (by decide) rfl jf_X7_64 (fun _ => rfl) rfl dX7_several_106 ?_
            refine j_callVi (g := 3) (ci := 10) o (c_X10_miss l P (M24 3 2) M24 N _ h) dX7_several_109 jc_X7_67 jn_X10_miss rfl rfl rfl (fun _ => rfl) rfl rfl (fun r34 M35 Nz36 h => ?_)
            obtain ⟨rfl, h⟩ := h
            obtain ⟨hz37, h⟩ := h
            rw [hE]
            exact j_zret o hz37.1 dX7_several_112 ⟨_, rfl, rfl, rfl, h⟩)
    exact j_pick [2, 3, 1, 0] rfl h
  · replace h := h.2 c4
    refine j_aload_n o dX7_several_25 rfl ?_
    refine j_getf o (g := 4) (slot := 0) (ci := 7) (v := .ref (P.1 3)) rfl jin_X7 (by decide) rfl jf_X7_34 (fun _ => rfl) rfl dX7_several_26 ?_
    refine j_aload_n o dX7_several_29 rfl ?_
    refine j_getf o (g := 4) (slot := 0) (ci := 7) (v := .ref (P.1 3)) rfl jin_X7 (by decide) rfl jf_X7_34 (fun _ => rfl) rfl dX7_several_30 ?_
    refine j_getf o (g := 3) (slot := 2) (ci := 10) (v := .int ((upM M 3 2 ((M 3 2) + 1)) 3 2)) rfl jin_X10 (by decide) rfl jf_X7_64 (fun _ => rfl) rfl dX7_several_33 ?_
    refine j_callVi (g := 3) (ci := 10) o (c_X10_miss l P ((upM M 3 2 ((M 3 2) + 1)) 3 2) (upM M 3 2 ((M 3 2) + 1)) N _ h) dX7_several_36 jc_X7_67 jn_X10_miss rfl rfl rfl (fun _ => rfl) rfl rfl (fun r38 M39 Nz40 h => ?_)
    obtain ⟨rfl, h⟩ := h
    obtain ⟨hz41, h⟩ := h
    rw [hE]
    exact j_zret o hz41.1 dX7_several_39 ⟨_, rfl, rfl, rfl, h⟩

abbrev rr_X7_condition (d : Nat) : Room := { frames := 4 + d, cells := 0, slots := 0, locals := 83 + d * 23 }
def wb_X7_condition (r : (jP → Int32 → jM → (Int32 → jM → Prop) → Prop) × (jP → Int32 → Int32 → jM → (Int32 → jM → Prop) → Prop) × (jP → Int32 → jM → (Int32 → jM → Prop) → Prop) × (jP → Int32 → jM → (Int32 → jM → Prop) → Prop)) (P : jP) (a1 : Int32) (M : jM) (Q : Int32 → jM → Prop) : Prop :=
  r.2.2.1 P a1 M (fun r1 M2 =>
  ∀ R8 : Int32 → Int32 → jM → Prop, (∀ (x4 : Int32) (x5 : Int32) (M6 : jM), (
   (160 ≤ x5 → (
    jb x4 ∧
    Q x4 M6
   )) ∧ (¬ 160 ≤ x5 → (
    (x4 = 0 → (
     jb x4 ∧
     Q x4 M6
    )) ∧ (¬ x4 = 0 → (
     w_X10_passes P 124 M6 (fun r11 M12 =>
     (r11 = 0 → (
      jb x4 ∧
      Q x4 M12
     )) ∧ (¬ r11 = 0 → (
      r.2.2.1 P a1 M12 (fun r16 M17 =>
      ∀ R52 : Int32 → jM → Prop, (∀ (x19 : Int32) (M20 : jM), (
       R8 x19 (x5 + 1) M20
      ) → R52 x19 M20) →
      (r16 = 0 → (
       R52 0 M17
      )) ∧ (¬ r16 = 0 → (
       w_X7_emit P 3 M17 (fun r22 M23 =>
       (r22 = 0 → (
        R52 0 M23
       )) ∧ (¬ r22 = 0 → (
        R52 1 M23
       )))
      )))
     )))
    ))
   ))
  ) → R8 x4 x5 M6) →
  R8 r1 0 M2)
def wb_X7_nested (r : (jP → Int32 → jM → (Int32 → jM → Prop) → Prop) × (jP → Int32 → Int32 → jM → (Int32 → jM → Prop) → Prop) × (jP → Int32 → jM → (Int32 → jM → Prop) → Prop) × (jP → Int32 → jM → (Int32 → jM → Prop) → Prop)) (P : jP) (a1 : Int32) (a2 : Int32) (M : jM) (Q : Int32 → jM → Prop) : Prop :=
  (¬ a1 = 33 → (
   r.1 P a2 (upM M 3 2 ((M 3 2) + 1)) (fun r2 M3 =>
   (r2 = 0 → (
    Q 0 M3
   )) ∧ (¬ r2 = 0 → (
    w_X10_needs P 41 M3 (fun r6 M7 =>
    (r6 = 0 → (
     Q 0 M7
    )) ∧ (¬ r6 = 0 → (
     Q 1 M7
    )))
   )))
  )) ∧ (a1 = 33 → (
   r.2.2.2 P a2 (upM M 3 2 ((M 3 2) + 1)) (fun r10 M11 =>
   (r10 = 0 → (
    Q 0 M11
   )) ∧ (¬ r10 = 0 → (
    w_X7_emit P 1 M11 (fun r14 M15 =>
    (r14 = 0 → (
     Q 0 M15
    )) ∧ (¬ r14 = 0 → (
     Q 1 M15
    )))
   )))
  ))
def wb_X7_part (r : (jP → Int32 → jM → (Int32 → jM → Prop) → Prop) × (jP → Int32 → Int32 → jM → (Int32 → jM → Prop) → Prop) × (jP → Int32 → jM → (Int32 → jM → Prop) → Prop) × (jP → Int32 → jM → (Int32 → jM → Prop) → Prop)) (P : jP) (a1 : Int32) (M : jM) (Q : Int32 → jM → Prop) : Prop :=
  r.2.2.2 P a1 M (fun r1 M2 =>
  ∀ R8 : Int32 → Int32 → jM → Prop, (∀ (x4 : Int32) (x5 : Int32) (M6 : jM), (
   (160 ≤ x5 → (
    jb x4 ∧
    Q x4 M6
   )) ∧ (¬ 160 ≤ x5 → (
    (x4 = 0 → (
     jb x4 ∧
     Q x4 M6
    )) ∧ (¬ x4 = 0 → (
     w_X10_passes P 38 M6 (fun r11 M12 =>
     (r11 = 0 → (
      jb x4 ∧
      Q x4 M12
     )) ∧ (¬ r11 = 0 → (
      r.2.2.2 P a1 M12 (fun r16 M17 =>
      ∀ R52 : Int32 → jM → Prop, (∀ (x19 : Int32) (M20 : jM), (
       R8 x19 (x5 + 1) M20
      ) → R52 x19 M20) →
      (r16 = 0 → (
       R52 0 M17
      )) ∧ (¬ r16 = 0 → (
       w_X7_emit P 2 M17 (fun r22 M23 =>
       (r22 = 0 → (
        R52 0 M23
       )) ∧ (¬ r22 = 0 → (
        R52 1 M23
       )))
      )))
     )))
    ))
   ))
  ) → R8 x4 x5 M6) →
  R8 r1 0 M2)
def wb_X7_unit (r : (jP → Int32 → jM → (Int32 → jM → Prop) → Prop) × (jP → Int32 → Int32 → jM → (Int32 → jM → Prop) → Prop) × (jP → Int32 → jM → (Int32 → jM → Prop) → Prop) × (jP → Int32 → jM → (Int32 → jM → Prop) → Prop)) (P : jP) (a1 : Int32) (M : jM) (Q : Int32 → jM → Prop) : Prop :=
  w_X10_next P M (fun r1 M2 =>
  ∀ R20 : Prop, ((
   (6 ≤ a1 → (
    w_X10_miss P (M2 3 2) M2 (fun r5 M6 =>
    jb r5 ∧
    Q r5 M6)
   )) ∧ (¬ 6 ≤ a1 → (
    r.2.1 P r1 (a1 + 1) M2 (fun r9 M10 =>
    jb r9 ∧
    Q r9 M10)
   ))
  ) → R20) →
  (r1 = 33 → (
   R20
  )) ∧ (¬ r1 = 33 → (
   (¬ r1 = 40 → (
    ∀ R73 : Prop, ((
     w_X7_isLetter P r1 M2 (fun r15 =>
     (¬ r15 = 0 → (
      w_X7_atLeast P 1 ((1 : Int32) <<< ((r1 - 97) &&& 31)) (fun r19 =>
      w_X7_emit P r19 (upM M2 3 2 ((M2 3 2) + 1)) (fun r22 M23 =>
      jb r22 ∧
      Q r22 M23))
     )) ∧ (r15 = 0 → (
      w_X10_miss P (M2 3 2) M2 (fun r26 M27 =>
      jb r26 ∧
      Q r26 M27)
     )))
    ) → R73) →
    (r1 < 49 → (
     R73
    )) ∧ (¬ r1 < 49 → (
     (57 < r1 → (
      R73
     )) ∧ (¬ 57 < r1 → (
      w_X7_several P (r1 - 48) M2 (fun r32 M33 =>
      jb r32 ∧
      Q r32 M33)
     ))
    ))
   )) ∧ (r1 = 40 → (
    R20
   ))
  )))
def wr_X7_condition : Nat → (jP → Int32 → jM → (Int32 → jM → Prop) → Prop) × (jP → Int32 → Int32 → jM → (Int32 → jM → Prop) → Prop) × (jP → Int32 → jM → (Int32 → jM → Prop) → Prop) × (jP → Int32 → jM → (Int32 → jM → Prop) → Prop)
  | 0 => (fun _ _ _ _ => False, fun _ _ _ _ _ => False, fun _ _ _ _ => False, fun _ _ _ _ => False)
  | d + 1 => (wb_X7_condition (wr_X7_condition d), wb_X7_nested (wr_X7_condition d), wb_X7_part (wr_X7_condition d), wb_X7_unit (wr_X7_condition d))
abbrev ih_X7_condition (l : Launch) (d : Nat) : Prop := (∀ (P : jP) (a1 : Int32) (M : jM) (N : jN) (Q : Int32 → jM → Prop), (wr_X7_condition d).1 P a1 M Q → jC l yX7_condition cX7_condition 4 (some .boolean) (rr_X7_condition d) LC [.ref (P.1 4), .int a1] P M N (jqi P (fun r M' N' => N = N' ∧ Q r M' ))) ∧ (∀ (P : jP) (a1 : Int32) (a2 : Int32) (M : jM) (N : jN) (Q : Int32 → jM → Prop), (wr_X7_condition d).2.1 P a1 a2 M Q → jC l yX7_nested cX7_nested 3 (some .boolean) (rr_X7_condition d) LC [.ref (P.1 4), .int a1, .int a2] P M N (jqi P (fun r M' N' => N = N' ∧ Q r M' ))) ∧ (∀ (P : jP) (a1 : Int32) (M : jM) (N : jN) (Q : Int32 → jM → Prop), (wr_X7_condition d).2.2.1 P a1 M Q → jC l yX7_part cX7_part 4 (some .boolean) (rr_X7_condition d) LC [.ref (P.1 4), .int a1] P M N (jqi P (fun r M' N' => N = N' ∧ Q r M' ))) ∧ (∀ (P : jP) (a1 : Int32) (M : jM) (N : jN) (Q : Int32 → jM → Prop), (wr_X7_condition d).2.2.2 P a1 M Q → jC l yX7_unit cX7_unit 3 (some .boolean) (rr_X7_condition d) LC [.ref (P.1 4), .int a1] P M N (jqi P (fun r M' N' => N = N' ∧ Q r M' )))
set_option maxRecDepth 20000 in
theorem cr_X7_condition (l : Launch) (d : Nat) (ih : ih_X7_condition l d) : ∀ (P : jP) (a1 : Int32) (M : jM) (N : jN) (Q : Int32 → jM → Prop), (wr_X7_condition (d + 1)).1 P a1 M Q → jC l yX7_condition cX7_condition 4 (some .boolean) (rr_X7_condition (d + 1)) LC [.ref (P.1 4), .int a1] P M N (jqi P (fun r M' N' => N = N' ∧ Q r M' )) := by
  intro P a1 M N Q h
  have h : wb_X7_condition (wr_X7_condition d) P a1 M Q := h
  refine jC_of (by decide +kernel) [(0, .ref (P.1 4)), (1, .int a1)] (Nat.le_of_ble_eq_true rfl) rfl (fun X o => ?_)
  obtain ⟨E, hE⟩ : ∃ E, E = jE X (rr_X7_condition (d + 1)) (jqi P (fun r M' N' => N = N' ∧ Q r M' )) := ⟨_, rfl⟩
  rw [← hE]
  unfold wb_X7_condition at h
  refine j_aload_n o dX7_condition_0 rfl ?_
  refine j_iload_n o dX7_condition_1 rfl ?_
  refine j_callVi (g := 4) (ci := 7) o (ih.2.2.1 P a1 M N _ h) dX7_condition_2 jc_X7_92 jn_X7_part rfl (jRmb_mk rfl rfl (by dsimp only [rr_X7_condition, rr_X7_condition]; omega) (by dsimp only [rr_X7_condition, rr_X7_condition]; omega)) rfl (fun _ => rfl) rfl rfl (fun r1 M2 Nz3 h => ?_)
  obtain ⟨rfl, h⟩ := h
  refine j_istore_n o [(2, .int r1), (0, .ref (P.1 4)), (1, .int a1)] dX7_condition_5 (by decide) rfl ?_
  refine j_iconst o (v := 0) dX7_condition_6 rfl ?_
  refine j_istore_n o [(3, .int 0), (2, .int r1), (0, .ref (P.1 4)), (1, .int a1)] dX7_condition_7 (by decide) rfl ?_
  replace h := h (fun (x4 : Int32) (x5 : Int32) (M6 : jM) => J X P M6 N 0 0 E 4 8 [(0, .ref (P.1 4)), (1, .int a1), (2, .int x4), (3, .int x5)] []) (by
    intro x4 x5 M6 h
    refine j_iload_n o dX7_condition_8 rfl ?_
    refine j_sipush o (v := 160) dX7_condition_9 rfl ?_
    refine j_icmp_ge o (tgt := 59) dX7_condition_12 (by decide) (fun c7 => ?_) (fun c7 => ?_)
    · replace h := h.1 c7
      refine j_iload_n o dX7_condition_59 rfl ?_
      obtain ⟨hz8, h⟩ := h
      rw [hE]
      exact j_zret o hz8.1 dX7_condition_60 ⟨_, rfl, rfl, rfl, h⟩
    · replace h := h.2 c7
      refine j_iload_n o dX7_condition_15 rfl ?_
      refine j_if_eq o (tgt := 59) dX7_condition_16 (by decide) (fun c9 => ?_) (fun c9 => ?_)
      · replace h := h.1 c9
        refine j_iload_n o dX7_condition_59 rfl ?_
        obtain ⟨hz10, h⟩ := h
        rw [hE]
        exact j_zret o hz10.1 dX7_condition_60 ⟨_, rfl, rfl, rfl, h⟩
      · replace h := h.2 c9
        refine j_aload_n o dX7_condition_19 rfl ?_
        refine j_getf o (g := 4) (slot := 0) (ci := 7) (v := .ref (P.1 3)) rfl jin_X7 (by decide) rfl jf_X7_34 (fun _ => rfl) rfl dX7_condition_20 ?_
        refine j_bipush o (v := 124) dX7_condition_23 rfl ?_
        refine j_callVi (g := 3) (ci := 10) o (c_X10_passes l P 124 M6 N _ h) dX7_condition_25 jc_X7_89 jn_X10_passes rfl (jRmb_mk rfl rfl (by dsimp only [rr_X7_condition, rm_X10_passes]; omega) (by dsimp only [rr_X7_condition, rm_X10_passes]; omega)) rfl (fun _ => rfl) rfl rfl (fun r11 M12 Nz13 h => ?_)
        obtain ⟨rfl, h⟩ := h
        refine j_if_eq o (tgt := 59) dX7_condition_28 (by decide) (fun c14 => ?_) (fun c14 => ?_)
        · replace h := h.1 c14
          refine j_iload_n o dX7_condition_59 rfl ?_
          obtain ⟨hz15, h⟩ := h
          rw [hE]
          exact j_zret o hz15.1 dX7_condition_60 ⟨_, rfl, rfl, rfl, h⟩
        · replace h := h.2 c14
          refine j_aload_n o dX7_condition_31 rfl ?_
          refine j_iload_n o dX7_condition_32 rfl ?_
          refine j_callVi (g := 4) (ci := 7) o (ih.2.2.1 P a1 M12 N _ h) dX7_condition_33 jc_X7_92 jn_X7_part rfl (jRmb_mk rfl rfl (by dsimp only [rr_X7_condition, rr_X7_condition]; omega) (by dsimp only [rr_X7_condition, rr_X7_condition]; omega)) rfl (fun _ => rfl) rfl rfl (fun r16 M17 Nz18 h => ?_)
          obtain ⟨rfl, h⟩ := h
          replace h := h (fun (x19 : Int32) (M20 : jM) => J X P M20 N 0 0 E 4 52 [(0, .ref (P.1 4)), (1, .int a1), (3, .int x5)] [.int x19]) (by
            intro x19 M20 h
            refine j_istore_n o [(2, .int x19), (0, .ref (P.1 4)), (1, .int a1), (3, .int x5)] dX7_condition_52 (by decide) rfl ?_
            refine j_iinc o (v := x5 + 1) [(3, .int (x5 + 1)), (2, .int x19), (0, .ref (P.1 4)), (1, .int a1)] dX7_condition_53 rfl rfl (by decide) rfl ?_
            refine j_goto o (tgt := 8) dX7_condition_56 (by decide) ?_
            exact j_pick [2, 3, 1, 0] rfl h)
          refine j_if_eq o (tgt := 51) dX7_condition_36 (by decide) (fun c21 => ?_) (fun c21 => ?_)
          · replace h := h.1 c21
            refine j_iconst o (v := 0) dX7_condition_51 rfl ?_
            exact j_pick [0, 1, 3] rfl h
          · replace h := h.2 c21
            refine j_aload_n o dX7_condition_39 rfl ?_
            refine j_iconst o (v := 3) dX7_condition_40 rfl ?_
            refine j_callVi (g := 4) (ci := 7) o (c_X7_emit l P 3 M17 N _ h) dX7_condition_41 jc_X7_95 jn_X7_emit rfl (jRmb_mk rfl rfl (by dsimp only [rr_X7_condition, rm_X7_emit]; omega) (by dsimp only [rr_X7_condition, rm_X7_emit]; omega)) rfl (fun _ => rfl) rfl rfl (fun r22 M23 Nz24 h => ?_)
            obtain ⟨rfl, h⟩ := h
            refine j_if_eq o (tgt := 51) dX7_condition_44 (by decide) (fun c25 => ?_) (fun c25 => ?_)
            · replace h := h.1 c25
              refine j_iconst o (v := 0) dX7_condition_51 rfl ?_
              exact j_pick [0, 1, 3] rfl h
            · replace h := h.2 c25
              refine j_iconst o (v := 1) dX7_condition_47 rfl ?_
              refine j_goto o (tgt := 52) dX7_condition_48 (by decide) ?_
              exact j_pick [0, 1, 3] rfl h)
  exact j_pick [2, 3, 1, 0] rfl h
set_option maxRecDepth 20000 in
theorem cr_X7_nested (l : Launch) (d : Nat) (ih : ih_X7_condition l d) : ∀ (P : jP) (a1 : Int32) (a2 : Int32) (M : jM) (N : jN) (Q : Int32 → jM → Prop), (wr_X7_condition (d + 1)).2.1 P a1 a2 M Q → jC l yX7_nested cX7_nested 3 (some .boolean) (rr_X7_condition (d + 1)) LC [.ref (P.1 4), .int a1, .int a2] P M N (jqi P (fun r M' N' => N = N' ∧ Q r M' )) := by
  intro P a1 a2 M N Q h
  have h : wb_X7_nested (wr_X7_condition d) P a1 a2 M Q := h
  refine jC_of (by decide +kernel) [(0, .ref (P.1 4)), (1, .int a1), (2, .int a2)] (Nat.le_of_ble_eq_true rfl) rfl (fun X o => ?_)
  obtain ⟨E, hE⟩ : ∃ E, E = jE X (rr_X7_condition (d + 1)) (jqi P (fun r M' N' => N = N' ∧ Q r M' )) := ⟨_, rfl⟩
  rw [← hE]
  unfold wb_X7_nested at h
  refine j_aload_n o dX7_nested_0 rfl ?_
  refine j_getf o (g := 4) (slot := 0) (ci := 7) (v := .ref (P.1 3)) rfl jin_X7 (by decide) rfl jf_X7_34 (fun _ => rfl) rfl dX7_nested_1 ?_
  refine j_dup o dX7_nested_4 rfl ?_
  refine j_getf o (g := 3) (slot := 2) (ci := 10) (v := .int (M 3 2)) rfl jin_X10 (by decide) rfl jf_X7_64 (fun _ => rfl) rfl dX7_nested_5 ?_
  refine j_iconst o (v := 1) dX7_nested_8 rfl ?_
  refine j_iadd o dX7_nested_9 ?_
  refine j_putf o (M1 := upM M 3 2 ((M 3 2) + 1)) (N1 := N) (g := 3) (slot := 2) (ci := 10) (ty := .int) rfl jin_X10 tyX10_ok nmX10 (by decide) rfl rfl jf_X7_64 (by decide +kernel) rfl rfl (Nat.le_of_ble_eq_true rfl) (fun _ => rfl) (fun _ => rfl) (fun _ hj => upM_ne _ _ _ hj) (fun _ _ => rfl) dX7_nested_10 ?_
  refine j_iload_n o dX7_nested_13 rfl ?_
  refine j_bipush o (v := 33) dX7_nested_14 rfl ?_
  refine j_icmp_ne o (tgt := 41) dX7_nested_16 (by decide) (fun c1 => ?_) (fun c1 => ?_)
  · replace h := h.1 c1
    refine j_aload_n o dX7_nested_41 rfl ?_
    refine j_iload_n o dX7_nested_42 rfl ?_
    refine j_callVi (g := 4) (ci := 7) o (ih.1 P a2 (upM M 3 2 ((M 3 2) + 1)) N _ h) dX7_nested_43 jc_X7_56 jn_X7_condition rfl (jRmb_mk rfl rfl (by dsimp only [rr_X7_condition, rr_X7_condition]; omega) (by dsimp only [rr_X7_condition, rr_X7_condition]; omega)) rfl (fun _ => rfl) rfl rfl (fun r2 M3 Nz4 h => ?_)
    obtain ⟨rfl, h⟩ := h
    refine j_if_eq o (tgt := 65) dX7_nested_46 (by decide) (fun c5 => ?_) (fun c5 => ?_)
    · replace h := h.1 c5
      refine j_iconst o (v := 0) dX7_nested_65 rfl ?_
      rw [hE]
      exact j_zret o rfl dX7_nested_66 ⟨_, rfl, rfl, rfl, h⟩
    · replace h := h.2 c5
      refine j_aload_n o dX7_nested_49 rfl ?_
      refine j_getf o (g := 4) (slot := 0) (ci := 7) (v := .ref (P.1 3)) rfl jin_X7 (by decide) rfl jf_X7_34 (fun _ => rfl) rfl dX7_nested_50 ?_
      refine j_bipush o (v := 41) dX7_nested_53 rfl ?_
      refine j_callVi (g := 3) (ci := 10) o (c_X10_needs l P 41 M3 N _ h) dX7_nested_55 jc_X7_85 jn_X10_needs rfl (jRmb_mk rfl rfl (by dsimp only [rr_X7_condition, rm_X10_needs]; omega) (by dsimp only [rr_X7_condition, rm_X10_needs]; omega)) rfl (fun _ => rfl) rfl rfl (fun r6 M7 Nz8 h => ?_)
      obtain ⟨rfl, h⟩ := h
      refine j_if_eq o (tgt := 65) dX7_nested_58 (by decide) (fun c9 => ?_) (fun c9 => ?_)
      · replace h := h.1 c9
        refine j_iconst o (v := 0) dX7_nested_65 rfl ?_
        rw [hE]
        exact j_zret o rfl dX7_nested_66 ⟨_, rfl, rfl, rfl, h⟩
      · replace h := h.2 c9
        refine j_iconst o (v := 1) dX7_nested_61 rfl ?_
        refine j_goto o (tgt := 66) dX7_nested_62 (by decide) ?_
        rw [hE]
        exact j_zret o rfl dX7_nested_66 ⟨_, rfl, rfl, rfl, h⟩
  · replace h := h.2 c1
    refine j_aload_n o dX7_nested_19 rfl ?_
    refine j_iload_n o dX7_nested_20 rfl ?_
    refine j_callVi (g := 4) (ci := 7) o (ih.2.2.2 P a2 (upM M 3 2 ((M 3 2) + 1)) N _ h) dX7_nested_21 jc_X7_98 jn_X7_unit rfl (jRmb_mk rfl rfl (by dsimp only [rr_X7_condition, rr_X7_condition]; omega) (by dsimp only [rr_X7_condition, rr_X7_condition]; omega)) rfl (fun _ => rfl) rfl rfl (fun r10 M11 Nz12 h => ?_)
    obtain ⟨rfl, h⟩ := h
    refine j_if_eq o (tgt := 39) dX7_nested_24 (by decide) (fun c13 => ?_) (fun c13 => ?_)
    · replace h := h.1 c13
      refine j_iconst o (v := 0) dX7_nested_39 rfl ?_
      rw [hE]
      exact j_zret o rfl dX7_nested_40 ⟨_, rfl, rfl, rfl, h⟩
    · replace h := h.2 c13
      refine j_aload_n o dX7_nested_27 rfl ?_
      refine j_iconst o (v := 1) dX7_nested_28 rfl ?_
      refine j_callVi (g := 4) (ci := 7) o (c_X7_emit l P 1 M11 N _ h) dX7_nested_29 jc_X7_95 jn_X7_emit rfl (jRmb_mk rfl rfl (by dsimp only [rr_X7_condition, rm_X7_emit]; omega) (by dsimp only [rr_X7_condition, rm_X7_emit]; omega)) rfl (fun _ => rfl) rfl rfl (fun r14 M15 Nz16 h => ?_)
      obtain ⟨rfl, h⟩ := h
      refine j_if_eq o (tgt := 39) dX7_nested_32 (by decide) (fun c17 => ?_) (fun c17 => ?_)
      · replace h := h.1 c17
        refine j_iconst o (v := 0) dX7_nested_39 rfl ?_
        rw [hE]
        exact j_zret o rfl dX7_nested_40 ⟨_, rfl, rfl, rfl, h⟩
      · replace h := h.2 c17
        refine j_iconst o (v := 1) dX7_nested_35 rfl ?_
        refine j_goto o (tgt := 40) dX7_nested_36 (by decide) ?_
        rw [hE]
        exact j_zret o rfl dX7_nested_40 ⟨_, rfl, rfl, rfl, h⟩
set_option maxRecDepth 20000 in
theorem cr_X7_part (l : Launch) (d : Nat) (ih : ih_X7_condition l d) : ∀ (P : jP) (a1 : Int32) (M : jM) (N : jN) (Q : Int32 → jM → Prop), (wr_X7_condition (d + 1)).2.2.1 P a1 M Q → jC l yX7_part cX7_part 4 (some .boolean) (rr_X7_condition (d + 1)) LC [.ref (P.1 4), .int a1] P M N (jqi P (fun r M' N' => N = N' ∧ Q r M' )) := by
  intro P a1 M N Q h
  have h : wb_X7_part (wr_X7_condition d) P a1 M Q := h
  refine jC_of (by decide +kernel) [(0, .ref (P.1 4)), (1, .int a1)] (Nat.le_of_ble_eq_true rfl) rfl (fun X o => ?_)
  obtain ⟨E, hE⟩ : ∃ E, E = jE X (rr_X7_condition (d + 1)) (jqi P (fun r M' N' => N = N' ∧ Q r M' )) := ⟨_, rfl⟩
  rw [← hE]
  unfold wb_X7_part at h
  refine j_aload_n o dX7_part_0 rfl ?_
  refine j_iload_n o dX7_part_1 rfl ?_
  refine j_callVi (g := 4) (ci := 7) o (ih.2.2.2 P a1 M N _ h) dX7_part_2 jc_X7_98 jn_X7_unit rfl (jRmb_mk rfl rfl (by dsimp only [rr_X7_condition, rr_X7_condition]; omega) (by dsimp only [rr_X7_condition, rr_X7_condition]; omega)) rfl (fun _ => rfl) rfl rfl (fun r1 M2 Nz3 h => ?_)
  obtain ⟨rfl, h⟩ := h
  refine j_istore_n o [(2, .int r1), (0, .ref (P.1 4)), (1, .int a1)] dX7_part_5 (by decide) rfl ?_
  refine j_iconst o (v := 0) dX7_part_6 rfl ?_
  refine j_istore_n o [(3, .int 0), (2, .int r1), (0, .ref (P.1 4)), (1, .int a1)] dX7_part_7 (by decide) rfl ?_
  replace h := h (fun (x4 : Int32) (x5 : Int32) (M6 : jM) => J X P M6 N 0 0 E 4 8 [(0, .ref (P.1 4)), (1, .int a1), (2, .int x4), (3, .int x5)] []) (by
    intro x4 x5 M6 h
    refine j_iload_n o dX7_part_8 rfl ?_
    refine j_sipush o (v := 160) dX7_part_9 rfl ?_
    refine j_icmp_ge o (tgt := 59) dX7_part_12 (by decide) (fun c7 => ?_) (fun c7 => ?_)
    · replace h := h.1 c7
      refine j_iload_n o dX7_part_59 rfl ?_
      obtain ⟨hz8, h⟩ := h
      rw [hE]
      exact j_zret o hz8.1 dX7_part_60 ⟨_, rfl, rfl, rfl, h⟩
    · replace h := h.2 c7
      refine j_iload_n o dX7_part_15 rfl ?_
      refine j_if_eq o (tgt := 59) dX7_part_16 (by decide) (fun c9 => ?_) (fun c9 => ?_)
      · replace h := h.1 c9
        refine j_iload_n o dX7_part_59 rfl ?_
        obtain ⟨hz10, h⟩ := h
        rw [hE]
        exact j_zret o hz10.1 dX7_part_60 ⟨_, rfl, rfl, rfl, h⟩
      · replace h := h.2 c9
        refine j_aload_n o dX7_part_19 rfl ?_
        refine j_getf o (g := 4) (slot := 0) (ci := 7) (v := .ref (P.1 3)) rfl jin_X7 (by decide) rfl jf_X7_34 (fun _ => rfl) rfl dX7_part_20 ?_
        refine j_bipush o (v := 38) dX7_part_23 rfl ?_
        refine j_callVi (g := 3) (ci := 10) o (c_X10_passes l P 38 M6 N _ h) dX7_part_25 jc_X7_89 jn_X10_passes rfl (jRmb_mk rfl rfl (by dsimp only [rr_X7_condition, rm_X10_passes]; omega) (by dsimp only [rr_X7_condition, rm_X10_passes]; omega)) rfl (fun _ => rfl) rfl rfl (fun r11 M12 Nz13 h => ?_)
        obtain ⟨rfl, h⟩ := h
        refine j_if_eq o (tgt := 59) dX7_part_28 (by decide) (fun c14 => ?_) (fun c14 => ?_)
        · replace h := h.1 c14
          refine j_iload_n o dX7_part_59 rfl ?_
          obtain ⟨hz15, h⟩ := h
          rw [hE]
          exact j_zret o hz15.1 dX7_part_60 ⟨_, rfl, rfl, rfl, h⟩
        · replace h := h.2 c14
          refine j_aload_n o dX7_part_31 rfl ?_
          refine j_iload_n o dX7_part_32 rfl ?_
          refine j_callVi (g := 4) (ci := 7) o (ih.2.2.2 P a1 M12 N _ h) dX7_part_33 jc_X7_98 jn_X7_unit rfl (jRmb_mk rfl rfl (by dsimp only [rr_X7_condition, rr_X7_condition]; omega) (by dsimp only [rr_X7_condition, rr_X7_condition]; omega)) rfl (fun _ => rfl) rfl rfl (fun r16 M17 Nz18 h => ?_)
          obtain ⟨rfl, h⟩ := h
          replace h := h (fun (x19 : Int32) (M20 : jM) => J X P M20 N 0 0 E 4 52 [(0, .ref (P.1 4)), (1, .int a1), (3, .int x5)] [.int x19]) (by
            intro x19 M20 h
            refine j_istore_n o [(2, .int x19), (0, .ref (P.1 4)), (1, .int a1), (3, .int x5)] dX7_part_52 (by decide) rfl ?_
            refine j_iinc o (v := x5 + 1) [(3, .int (x5 + 1)), (2, .int x19), (0, .ref (P.1 4)), (1, .int a1)] dX7_part_53 rfl rfl (by decide) rfl ?_
            refine j_goto o (tgt := 8) dX7_part_56 (by decide) ?_
            exact j_pick [2, 3, 1, 0] rfl h)
          refine j_if_eq o (tgt := 51) dX7_part_36 (by decide) (fun c21 => ?_) (fun c21 => ?_)
          · replace h := h.1 c21
            refine j_iconst o (v := 0) dX7_part_51 rfl ?_
            exact j_pick [0, 1, 3] rfl h
          · replace h := h.2 c21
            refine j_aload_n o dX7_part_39 rfl ?_
            refine j_iconst o (v := 2) dX7_part_40 rfl ?_
            refine j_callVi (g := 4) (ci := 7) o (c_X7_emit l P 2 M17 N _ h) dX7_part_41 jc_X7_95 jn_X7_emit rfl (jRmb_mk rfl rfl (by dsimp only [rr_X7_condition, rm_X7_emit]; omega) (by dsimp only [rr_X7_condition, rm_X7_emit]; omega)) rfl (fun _ => rfl) rfl rfl (fun r22 M23 Nz24 h => ?_)
            obtain ⟨rfl, h⟩ := h
            refine j_if_eq o (tgt := 51) dX7_part_44 (by decide) (fun c25 => ?_) (fun c25 => ?_)
            · replace h := h.1 c25
              refine j_iconst o (v := 0) dX7_part_51 rfl ?_
              exact j_pick [0, 1, 3] rfl h
            · replace h := h.2 c25
              refine j_iconst o (v := 1) dX7_part_47 rfl ?_
              refine j_goto o (tgt := 52) dX7_part_48 (by decide) ?_
              exact j_pick [0, 1, 3] rfl h)
  exact j_pick [2, 3, 1, 0] rfl h
set_option maxRecDepth 20000 in
theorem cr_X7_unit (l : Launch) (d : Nat) (ih : ih_X7_condition l d) : ∀ (P : jP) (a1 : Int32) (M : jM) (N : jN) (Q : Int32 → jM → Prop), (wr_X7_condition (d + 1)).2.2.2 P a1 M Q → jC l yX7_unit cX7_unit 3 (some .boolean) (rr_X7_condition (d + 1)) LC [.ref (P.1 4), .int a1] P M N (jqi P (fun r M' N' => N = N' ∧ Q r M' )) := by
  intro P a1 M N Q h
  have h : wb_X7_unit (wr_X7_condition d) P a1 M Q := h
  refine jC_of (by decide +kernel) [(0, .ref (P.1 4)), (1, .int a1)] (Nat.le_of_ble_eq_true rfl) rfl (fun X o => ?_)
  obtain ⟨E, hE⟩ : ∃ E, E = jE X (rr_X7_condition (d + 1)) (jqi P (fun r M' N' => N = N' ∧ Q r M' )) := ⟨_, rfl⟩
  rw [← hE]
  unfold wb_X7_unit at h
  refine j_aload_n o dX7_unit_0 rfl ?_
  refine j_getf o (g := 4) (slot := 0) (ci := 7) (v := .ref (P.1 3)) rfl jin_X7 (by decide) rfl jf_X7_34 (fun _ => rfl) rfl dX7_unit_1 ?_
  refine j_callVi (g := 3) (ci := 10) o (c_X10_next l P M N _ h) dX7_unit_4 jc_X7_60 jn_X10_next rfl (jRmb_mk rfl rfl (by dsimp only [rr_X7_condition, rm_X10_next]; omega) (by dsimp only [rr_X7_condition, rm_X10_next]; omega)) rfl (fun _ => rfl) rfl rfl (fun r1 M2 Nz3 h => ?_)
  obtain ⟨rfl, h⟩ := h
  refine j_istore_n o [(2, .int r1), (0, .ref (P.1 4)), (1, .int a1)] dX7_unit_7 (by decide) rfl ?_
  refine j_iload_n o dX7_unit_8 rfl ?_
  refine j_bipush o (v := 33) dX7_unit_9 rfl ?_
  replace h := h (J X P M2 N 0 0 E 3 20 [(0, .ref (P.1 4)), (1, .int a1), (2, .int r1)] []) (by
    intro h
    refine j_iload_n o dX7_unit_20 rfl ?_
    refine j_bipush o (v := 6) dX7_unit_21 rfl ?_
    refine j_icmp_ge o (tgt := 37) dX7_unit_23 (by decide) (fun c4 => ?_) (fun c4 => ?_)
    · replace h := h.1 c4
      refine j_aload_n o dX7_unit_37 rfl ?_
      refine j_getf o (g := 4) (slot := 0) (ci := 7) (v := .ref (P.1 3)) rfl jin_X7 (by decide) rfl jf_X7_34 (fun _ => rfl) rfl dX7_unit_38 ?_
      refine j_aload_n o dX7_unit_41 rfl ?_
      refine j_getf o (g := 4) (slot := 0) (ci := 7) (v := .ref (P.1 3)) rfl jin_X7 (by decide) rfl jf_X7_34 (fun _ => rfl) rfl dX7_unit_42 ?_
      refine j_getf o (g := 3) (slot := 2) (ci := 10) (v := .int (M2 3 2)) rfl jin_X10 (by decide) rfl jf_X7_64 (fun _ => rfl) rfl dX7_unit_45 ?_
      refine j_callVi (g := 3) (ci := 10) o (c_X10_miss l P (M2 3 2) M2 N _ h) dX7_unit_48 jc_X7_67 jn_X10_miss rfl (jRmb_mk rfl rfl (by dsimp only [rr_X7_condition, rm_X10_miss]; omega) (by dsimp only [rr_X7_condition, rm_X10_miss]; omega)) rfl (fun _ => rfl) rfl rfl (fun r5 M6 Nz7 h => ?_)
      obtain ⟨rfl, h⟩ := h
      obtain ⟨hz8, h⟩ := h
      rw [hE]
      exact j_zret o hz8.1 dX7_unit_51 ⟨_, rfl, rfl, rfl, h⟩
    · replace h := h.2 c4
      refine j_aload_n o dX7_unit_26 rfl ?_
      refine j_iload_n o dX7_unit_27 rfl ?_
      refine j_iload_n o dX7_unit_28 rfl ?_
      refine j_iconst o (v := 1) dX7_unit_29 rfl ?_
      refine j_iadd o dX7_unit_30 ?_
      refine j_callVi (g := 4) (ci := 7) o (ih.2.1 P r1 (a1 + 1) M2 N _ h) dX7_unit_31 jc_X7_101 jn_X7_nested rfl (jRmb_mk rfl rfl (by dsimp only [rr_X7_condition, rr_X7_condition]; omega) (by dsimp only [rr_X7_condition, rr_X7_condition]; omega)) rfl (fun _ => rfl) rfl rfl (fun r9 M10 Nz11 h => ?_)
      obtain ⟨rfl, h⟩ := h
      refine j_goto o (tgt := 51) dX7_unit_34 (by decide) ?_
      obtain ⟨hz12, h⟩ := h
      rw [hE]
      exact j_zret o hz12.1 dX7_unit_51 ⟨_, rfl, rfl, rfl, h⟩)
  refine j_icmp_eq o (tgt := 20) dX7_unit_11 (by decide) (fun c13 => ?_) (fun c13 => ?_)
  · replace h := h.1 c13
    exact j_pick [1, 2, 0] rfl h
  · replace h := h.2 c13
    refine j_iload_n o dX7_unit_14 rfl ?_
    refine j_bipush o (v := 40) dX7_unit_15 rfl ?_
    refine j_icmp_ne o (tgt := 52) dX7_unit_17 (by decide) (fun c14 => ?_) (fun c14 => ?_)
    · replace h := h.1 c14
      refine j_iload_n o dX7_unit_52 rfl ?_
      refine j_bipush o (v := 49) dX7_unit_53 rfl ?_
      replace h := h (J X P M2 N 0 0 E 3 73 [(0, .ref (P.1 4)), (2, .int r1)] []) (by
        intro h
        refine j_aload_n o dX7_unit_73 rfl ?_
        refine j_iload_n o dX7_unit_74 rfl ?_
        refine j_callVi (g := 4) (ci := 7) o (c_X7_isLetter l P r1 M2 N _ h) dX7_unit_75 jc_X7_108 jn_X7_isLetter rfl (jRmb_mk rfl rfl (by dsimp only [rr_X7_condition, rm_X7_isLetter]; omega) (by dsimp only [rr_X7_condition, rm_X7_isLetter]; omega)) rfl (fun _ => rfl) rfl rfl (fun r15 Mz16 Nz17 h => ?_)
        obtain ⟨rfl, rfl, h⟩ := h
        refine j_if_ne o (tgt := 96) dX7_unit_78 (by decide) (fun c18 => ?_) (fun c18 => ?_)
        · replace h := h.1 c18
          refine j_aload_n o dX7_unit_96 rfl ?_
          refine j_getf o (g := 4) (slot := 0) (ci := 7) (v := .ref (P.1 3)) rfl jin_X7 (by decide) rfl jf_X7_34 (fun _ => rfl) rfl dX7_unit_97 ?_
          refine j_dup o dX7_unit_100 rfl ?_
          refine j_getf o (g := 3) (slot := 2) (ci := 10) (v := .int (M2 3 2)) rfl jin_X10 (by decide) rfl jf_X7_64 (fun _ => rfl) rfl dX7_unit_101 ?_
          refine j_iconst o (v := 1) dX7_unit_104 rfl ?_
          refine j_iadd o dX7_unit_105 ?_
          refine j_putf o (M1 := upM M2 3 2 ((M2 3 2) + 1)) (N1 := N) (g := 3) (slot := 2) (ci := 10) (ty := .int) rfl jin_X10 tyX10_ok nmX10 (by decide) rfl rfl jf_X7_64 (by decide +kernel) rfl rfl (Nat.le_of_ble_eq_true rfl) (fun _ => rfl) (fun _ => rfl) (fun _ hj => upM_ne _ _ _ hj) (fun _ _ => rfl) dX7_unit_106 ?_
          refine j_aload_n o dX7_unit_109 rfl ?_
          refine j_iconst o (v := 1) dX7_unit_110 rfl ?_
          refine j_iconst o (v := 1) dX7_unit_111 rfl ?_
          refine j_iload_n o dX7_unit_112 rfl ?_
          refine j_bipush o (v := 97) dX7_unit_113 rfl ?_
          refine j_isub o dX7_unit_115 ?_
          refine j_ishl o dX7_unit_116 ?_
          refine j_callSi o (c_X7_atLeast l P 1 ((1 : Int32) <<< ((r1 - 97) &&& 31)) (upM M2 3 2 ((M2 3 2) + 1)) N _ h) dX7_unit_117 jc_X7_111 jn_X7_atLeast rfl (jRmb_mk rfl rfl (by dsimp only [rr_X7_condition, rm_X7_atLeast]; omega) (by dsimp only [rr_X7_condition, rm_X7_atLeast]; omega)) rfl rfl (fun r19 Mz20 Nz21 h => ?_)
          obtain ⟨rfl, rfl, h⟩ := h
          refine j_callVi (g := 4) (ci := 7) o (c_X7_emit l P r19 (upM M2 3 2 ((M2 3 2) + 1)) N _ h) dX7_unit_120 jc_X7_95 jn_X7_emit rfl (jRmb_mk rfl rfl (by dsimp only [rr_X7_condition, rm_X7_emit]; omega) (by dsimp only [rr_X7_condition, rm_X7_emit]; omega)) rfl (fun _ => rfl) rfl rfl (fun r22 M23 Nz24 h => ?_)
          obtain ⟨rfl, h⟩ := h
          obtain ⟨hz25, h⟩ := h
          rw [hE]
          exact j_zret o hz25.1 dX7_unit_123 ⟨_, rfl, rfl, rfl, h⟩
        · replace h := h.2 c18
          refine j_aload_n o dX7_unit_81 rfl ?_
          refine j_getf o (g := 4) (slot := 0) (ci := 7) (v := .ref (P.1 3)) rfl jin_X7 (by decide) rfl jf_X7_34 (fun _ => rfl) rfl dX7_unit_82 ?_
          refine j_aload_n o dX7_unit_85 rfl ?_
          refine j_getf o (g := 4) (slot := 0) (ci := 7) (v := .ref (P.1 3)) rfl jin_X7 (by decide) rfl jf_X7_34 (fun _ => rfl) rfl dX7_unit_86 ?_
          refine j_getf o (g := 3) (slot := 2) (ci := 10) (v := .int (M2 3 2)) rfl jin_X10 (by decide) rfl jf_X7_64 (fun _ => rfl) rfl dX7_unit_89 ?_
          refine j_callVi (g := 3) (ci := 10) o (c_X10_miss l P (M2 3 2) M2 N _ h) dX7_unit_92 jc_X7_67 jn_X10_miss rfl (jRmb_mk rfl rfl (by dsimp only [rr_X7_condition, rm_X10_miss]; omega) (by dsimp only [rr_X7_condition, rm_X10_miss]; omega)) rfl (fun _ => rfl) rfl rfl (fun r26 M27 Nz28 h => ?_)
          obtain ⟨rfl, h⟩ := h
          obtain ⟨hz29, h⟩ := h
          rw [hE]
          exact j_zret o hz29.1 dX7_unit_95 ⟨_, rfl, rfl, rfl, h⟩)
      refine j_icmp_lt o (tgt := 73) dX7_unit_55 (by decide) (fun c30 => ?_) (fun c30 => ?_)
      · replace h := h.1 c30
        exact j_pick [1, 0] rfl h
      · replace h := h.2 c30
        refine j_iload_n o dX7_unit_58 rfl ?_
        refine j_bipush o (v := 57) dX7_unit_59 rfl ?_
        refine j_icmp_gt o (tgt := 73) dX7_unit_61 (by decide) (fun c31 => ?_) (fun c31 => ?_)
        · replace h := h.1 c31
          exact j_pick [1, 0] rfl h
        · replace h := h.2 c31
          refine j_aload_n o dX7_unit_64 rfl ?_
          refine j_iload_n o dX7_unit_65 rfl ?_
          refine j_bipush o (v := 48) dX7_unit_66 rfl ?_
          refine j_isub o dX7_unit_68 ?_
          refine j_callVi (g := 4) (ci := 7) o (c_X7_several l P (r1 - 48) M2 N _ h) dX7_unit_69 jc_X7_105 jn_X7_several rfl (jRmb_mk rfl rfl (by dsimp only [rr_X7_condition, rm_X7_several]; omega) (by dsimp only [rr_X7_condition, rm_X7_several]; omega)) rfl (fun _ => rfl) rfl rfl (fun r32 M33 Nz34 h => ?_)
          obtain ⟨rfl, h⟩ := h
          obtain ⟨hz35, h⟩ := h
          rw [hE]
          exact j_zret o hz35.1 dX7_unit_72 ⟨_, rfl, rfl, rfl, h⟩
    · replace h := h.2 c14
      exact j_pick [1, 2, 0] rfl h
theorem cr_X7_condition_all (l : Launch) : ∀ d, ih_X7_condition l d
  | 0 => ⟨fun _ _ _ _ _ h => h.elim, fun _ _ _ _ _ _ h => h.elim, fun _ _ _ _ _ h => h.elim, fun _ _ _ _ _ h => h.elim⟩
  | d + 1 => ⟨cr_X7_condition l d (cr_X7_condition_all l d), cr_X7_nested l d (cr_X7_condition_all l d), cr_X7_part l d (cr_X7_condition_all l d), cr_X7_unit l d (cr_X7_condition_all l d)⟩
abbrev rm_X7_condition : Room := rr_X7_condition 40
def w_X7_condition (P : jP) (a1 : Int32) (M : jM) (Q : Int32 → jM → Prop) : Prop := (wr_X7_condition 40).1 P a1 M Q
theorem c_X7_condition (l : Launch) (P : jP) (a1 : Int32) (M : jM) (N : jN) (Q : Int32 → jM → Prop) (h : w_X7_condition P a1 M Q) : jC l yX7_condition cX7_condition 4 (some .boolean) rm_X7_condition LC [.ref (P.1 4), .int a1] P M N (jqi P (fun r M' N' => N = N' ∧ Q r M' )) := (cr_X7_condition_all l 40).1 P a1 M N Q h
abbrev rm_X7_nested : Room := rr_X7_condition 40
def w_X7_nested (P : jP) (a1 : Int32) (a2 : Int32) (M : jM) (Q : Int32 → jM → Prop) : Prop := (wr_X7_condition 40).2.1 P a1 a2 M Q
theorem c_X7_nested (l : Launch) (P : jP) (a1 : Int32) (a2 : Int32) (M : jM) (N : jN) (Q : Int32 → jM → Prop) (h : w_X7_nested P a1 a2 M Q) : jC l yX7_nested cX7_nested 3 (some .boolean) rm_X7_nested LC [.ref (P.1 4), .int a1, .int a2] P M N (jqi P (fun r M' N' => N = N' ∧ Q r M' )) := (cr_X7_condition_all l 40).2.1 P a1 a2 M N Q h
abbrev rm_X7_part : Room := rr_X7_condition 40
def w_X7_part (P : jP) (a1 : Int32) (M : jM) (Q : Int32 → jM → Prop) : Prop := (wr_X7_condition 40).2.2.1 P a1 M Q
theorem c_X7_part (l : Launch) (P : jP) (a1 : Int32) (M : jM) (N : jN) (Q : Int32 → jM → Prop) (h : w_X7_part P a1 M Q) : jC l yX7_part cX7_part 4 (some .boolean) rm_X7_part LC [.ref (P.1 4), .int a1] P M N (jqi P (fun r M' N' => N = N' ∧ Q r M' )) := (cr_X7_condition_all l 40).2.2.1 P a1 M N Q h
abbrev rm_X7_unit : Room := rr_X7_condition 40
def w_X7_unit (P : jP) (a1 : Int32) (M : jM) (Q : Int32 → jM → Prop) : Prop := (wr_X7_condition 40).2.2.2 P a1 M Q
theorem c_X7_unit (l : Launch) (P : jP) (a1 : Int32) (M : jM) (N : jN) (Q : Int32 → jM → Prop) (h : w_X7_unit P a1 M Q) : jC l yX7_unit cX7_unit 3 (some .boolean) rm_X7_unit LC [.ref (P.1 4), .int a1] P M N (jqi P (fun r M' N' => N = N' ∧ Q r M' )) := (cr_X7_condition_all l 40).2.2.2 P a1 M N Q h
