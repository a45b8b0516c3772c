/-! SAYS and LEADS: they answer or throw -/
abbrev rm_X11_says : Room := { frames := 6, cells := 1, slots := 6, locals := 89 }
def w_X11_says (P : jP) (a1 a2 : Int32) (M : jM) (Q : Int32 → Prop) (QX : Prop) : Prop :=
  w_X11_lawAt P a1 M (fun r1 =>
  (r1 = 0 → QX) ∧ (r1 ≠ 0 →
   w_X3_isCase P a2 M (fun r5 =>
   (¬ r5 = 0 → cLw P r1 = true ∧ jin P (r1 + 3) a2 ∧ Q (M (r1 + 3) a2.toNatClampNeg)) ∧ (r5 = 0 → QX))))
set_option maxRecDepth 20000 in
theorem c_X11_says (l : Launch) (hfl : l.stackTraces = false) (P : jP) (a1 a2 : Int32) (M : jM) (N : jN) (Q : Int32 → Prop) (QX : Prop) (h : w_X11_says P a1 a2 M Q QX) : jTh l yX11_says cX11_says 4 (some .int) rm_X11_says LC [.ref (P.1 1), .int a1, .int a2] P M N (jqi P (fun r M' N' => M = M' ∧ N = N' ∧ Q r)) (fun P' M' N' => P' = P ∧ M' = M ∧ N' = N ∧ QX) := by
  refine jTh_of (by decide +kernel) [(0, .ref (P.1 1)), (1, .int a1), (2, .int a2)] (Nat.le_of_ble_eq_true rfl) rfl (fun X o u => ?_)
  obtain ⟨E, hE⟩ : ∃ E, E = jVE X rm_X11_says (jqi P (fun r M' N' => M = M' ∧ N = N' ∧ Q r)) (fun P' M' N' => P' = P ∧ M' = M ∧ N' = N ∧ QX) := ⟨_, rfl⟩
  rw [← hE]
  unfold w_X11_says at h
  refine j_aload_n o dX11_says_0 rfl ?_
  refine j_iload_n o dX11_says_1 rfl ?_
  refine j_callVr (g := 1) (ci := 11) o (c_X11_lawAt l P a1 M N _ h) dX11_says_2 jc_X11_191 jn_X11_lawAt rfl rfl rfl (fun _ => rfl) rfl rfl (fun r1 Mz2 Nz3 h => ?_)
  obtain ⟨rfl, rfl, h⟩ := h
  refine j_qstore_n o [(3, jrf P r1), (0, .ref (P.1 1)), (1, .int a1), (2, .int a2)] dX11_says_5 (by decide) rfl ?_
  refine j_qload_n o (g := r1) rfl dX11_says_6 ?_
  refine j_null2 o (tgt := 21) dX11_says_7 (by decide) (fun c4 => ?_) (fun c4 => ?_)
  · replace h := h.1 c4
    rw [hE]
    exact j_throw o u hfl rfl dX11_says_21 dX11_says_24 dX11_says_25 dX11_says_28 (by decide) rfl rfl (Nat.le_of_ble_eq_true rfl) (Nat.le_of_ble_eq_true rfl) ⟨rfl, rfl, rfl, h⟩
  · replace h := h.2 c4
    try rw [jrf_n P c4]
    refine j_aload_n o dX11_says_10 rfl ?_
    refine j_getf o (g := 1) (slot := 0) (ci := 11) (v := .ref (P.1 2)) rfl jin_X11 (by decide) rfl jf_X11_23 (fun _ => rfl) rfl dX11_says_11 ?_
    refine j_iload_n o dX11_says_14 rfl ?_
    refine j_callVi (g := 2) (ci := 3) o (c_X3_isCase l P a2 M N _ h) dX11_says_15 jc_X11_195 jn_X3_isCase rfl rfl rfl (fun _ => rfl) rfl rfl (fun r5 Mz6 Nz7 h => ?_)
    obtain ⟨rfl, rfl, h⟩ := h
    refine j_if_ne o (tgt := 29) dX11_says_18 (by decide) (fun c8 => ?_) (fun c8 => ?_)
    · replace h := h.1 c8
      refine j_aload_n o dX11_says_29 rfl ?_
      obtain ⟨hb9, h⟩ := h
      refine j_getf o (g := r1) (slot := 3) (ci := 4) (v := .ref (P.1 (r1 + 3))) rfl jin_X4 (by decide) rfl jf_X11_164 (fun tA => LC_lw hb9 tA _ _) rfl dX11_says_30 ?_
      refine j_iload_n o dX11_says_33 rfl ?_
      obtain ⟨hb10, h⟩ := h
      obtain ⟨nnhb10, hchb10, hihb10⟩ := hb10
      refine j_iald o (g := r1 + 3) (fun tA => LC_ia hchb10 tA _ _) hihb10 dX11_says_34 ?_
      refine j_widen (k' := rm_X11_says.cells) (n' := rm_X11_says.slots) (Nat.le_of_ble_eq_true rfl) (Nat.le_of_ble_eq_true rfl) ?_
      rw [hE]
      exact J.vx (j_iret o dX11_says_35 ⟨_, rfl, rfl, rfl, rfl, h⟩)
    · replace h := h.2 c8
      rw [hE]
      exact j_throw o u hfl rfl dX11_says_21 dX11_says_24 dX11_says_25 dX11_says_28 (by decide) rfl rfl (Nat.le_of_ble_eq_true rfl) (Nat.le_of_ble_eq_true rfl) ⟨rfl, rfl, rfl, h⟩
abbrev rm_X11_leads : Room := { frames := 6, cells := 1, slots := 6, locals := 89 }
def w_X11_leads (P : jP) (a1 a2 : Int32) (M : jM) (Q : Int32 → Prop) (QX : Prop) : Prop :=
  w_X11_formAt P a1 M (fun r1 =>
  (r1 = 0 → QX) ∧ (r1 ≠ 0 →
   w_X3_isCase P a2 M (fun r5 =>
   (¬ r5 = 0 → cFm P r1 = true ∧ w_X2_outcomeOn P r1 a2 M Q) ∧ (r5 = 0 → QX))))
set_option maxRecDepth 20000 in
theorem c_X11_leads (l : Launch) (hfl : l.stackTraces = false) (P : jP) (a1 a2 : Int32) (M : jM) (N : jN) (Q : Int32 → Prop) (QX : Prop) (h : w_X11_leads P a1 a2 M Q QX) : jTh l yX11_leads cX11_leads 4 (some .int) rm_X11_leads LC [.ref (P.1 1), .int a1, .int a2] P M N (jqi P (fun r M' N' => M = M' ∧ N = N' ∧ Q r)) (fun P' M' N' => P' = P ∧ M' = M ∧ N' = N ∧ QX) := by
  refine jTh_of (by decide +kernel) [(0, .ref (P.1 1)), (1, .int a1), (2, .int a2)] (Nat.le_of_ble_eq_true rfl) rfl (fun X o u => ?_)
  obtain ⟨E, hE⟩ : ∃ E, E = jVE X rm_X11_leads (jqi P (fun r M' N' => M = M' ∧ N = N' ∧ Q r)) (fun P' M' N' => P' = P ∧ M' = M ∧ N' = N ∧ QX) := ⟨_, rfl⟩
  rw [← hE]
  unfold w_X11_leads at h
  refine j_aload_n o dX11_leads_0 rfl ?_
  refine j_iload_n o dX11_leads_1 rfl ?_
  refine j_callVr (g := 1) (ci := 11) o (c_X11_formAt l P a1 M N _ h) dX11_leads_2 jc_X11_237 jn_X11_formAt rfl rfl rfl (fun _ => rfl) rfl rfl (fun r1 Mz2 Nz3 h => ?_)
  obtain ⟨rfl, rfl, h⟩ := h
  refine j_qstore_n o [(3, jrf P r1), (0, .ref (P.1 1)), (1, .int a1), (2, .int a2)] dX11_leads_5 (by decide) rfl ?_
  refine j_qload_n o (g := r1) rfl dX11_leads_6 ?_
  refine j_null2 o (tgt := 21) dX11_leads_7 (by decide) (fun c4 => ?_) (fun c4 => ?_)
  · replace h := h.1 c4
    rw [hE]
    exact j_throw o u hfl rfl dX11_leads_21 dX11_leads_24 dX11_leads_25 dX11_leads_28 (by decide) rfl rfl (Nat.le_of_ble_eq_true rfl) (Nat.le_of_ble_eq_true rfl) ⟨rfl, rfl, rfl, h⟩
  · replace h := h.2 c4
    try rw [jrf_n P c4]
    refine j_aload_n o dX11_leads_10 rfl ?_
    refine j_getf o (g := 1) (slot := 0) (ci := 11) (v := .ref (P.1 2)) rfl jin_X11 (by decide) rfl jf_X11_23 (fun _ => rfl) rfl dX11_leads_11 ?_
    refine j_iload_n o dX11_leads_14 rfl ?_
    refine j_callVi (g := 2) (ci := 3) o (c_X3_isCase l P a2 M N _ h) dX11_leads_15 jc_X11_195 jn_X3_isCase rfl rfl rfl (fun _ => rfl) rfl rfl (fun r5 Mz6 Nz7 h => ?_)
    obtain ⟨rfl, rfl, h⟩ := h
    refine j_if_ne o (tgt := 29) dX11_leads_18 (by decide) (fun c8 => ?_) (fun c8 => ?_)
    · replace h := h.1 c8
      refine j_aload_n o dX11_leads_29 rfl ?_
      obtain ⟨hb9, h⟩ := h
      refine j_iload_n o dX11_leads_30 rfl ?_
      refine j_callVi (g := r1) (ci := 2) o (c_X2_outcomeOn l P r1 a2 M N _ h) dX11_leads_31 jc_X11_241 jn_X2_outcomeOn rfl rfl rfl (fun tA => LC_fm hb9 tA _ _) rfl rfl (fun r9 Mz8 Nz9 h => ?_)
      obtain ⟨rfl, rfl, h⟩ := h
      refine j_widen (k' := rm_X11_leads.cells) (n' := rm_X11_leads.slots) (Nat.le_of_ble_eq_true rfl) (Nat.le_of_ble_eq_true rfl) ?_
      rw [hE]
      exact J.vx (j_iret o dX11_leads_34 ⟨_, rfl, rfl, rfl, rfl, h⟩)
    · replace h := h.2 c8
      rw [hE]
      exact j_throw o u hfl rfl dX11_leads_21 dX11_leads_24 dX11_leads_25 dX11_leads_28 (by decide) rfl rfl (Nat.le_of_ble_eq_true rfl) (Nat.le_of_ble_eq_true rfl) ⟨rfl, rfl, rfl, h⟩
