/-! KEEPING laws and forms -/
theorem rfv_z0 (P : jP) (h : Nat → Int64) (j d : Nat) (h0 : d ≠ 0) (h1 : d ≠ 1000) (h2 : d ≠ 1001) : rfv P (fun _ => 0) h j d = .null := by
  unfold rfv
  rw [if_neg h0, if_neg h1, if_neg h2, if_pos rfl]
theorem rf_form (P : jP) {k : Nat} (hk : k < 200) : rfls P (fun _ => 0) (fun _ => 0) 0 [0, k + 1, k + 2, k + 3] = [.int 0, .null, .null, .null] := by
  show [Value.int 0, rfv P (fun _ => 0) (fun _ => 0) 1 (k + 1), rfv P (fun _ => 0) (fun _ => 0) 2 (k + 2), rfv P (fun _ => 0) (fun _ => 0) 3 (k + 3)] = _
  rw [rfv_z0 P _ _ _ (by omega) (by omega) (by omega), rfv_z0 P _ _ _ (by omega) (by omega) (by omega), rfv_z0 P _ _ _ (by omega) (by omega) (by omega)]
theorem rf_law (P : jP) {k : Nat} (hk : k < 200) : rfls P (fun _ => 0) (fun _ => 0) 0 [0, k + 1, k + 2, k + 3, k + 4, 0, 0] = [.int 0, .null, .null, .null, .null, .int 0, .int 0] := by
  show [Value.int 0, rfv P (fun _ => 0) (fun _ => 0) 1 (k + 1), rfv P (fun _ => 0) (fun _ => 0) 2 (k + 2), rfv P (fun _ => 0) (fun _ => 0) 3 (k + 3), rfv P (fun _ => 0) (fun _ => 0) 4 (k + 4), Value.int 0, Value.int 0] = _
  rw [rfv_z0 P _ _ _ (by omega) (by omega) (by omega), rfv_z0 P _ _ _ (by omega) (by omega) (by omega), rfv_z0 P _ _ _ (by omega) (by omega) (by omega), rfv_z0 P _ _ _ (by omega) (by omega) (by omega)]
def jqiP (P : jP) (Q : Int32 → jP → jM → jN → Prop) : Option Value → jP → jM → jN → Prop := fun v P' M' N' => ∃ r, v = some (.int r) ∧ Pext P P' ∧ Q r P' M' N'
def jqrP (P : jP) (Q : Nat → jP → jM → jN → Prop) : Option Value → jP → jM → jN → Prop := fun v P' M' N' => ∃ r, v = some (jrf P' r) ∧ Pext P P' ∧ Q r P' M' N'
abbrev rm_X7_handOver : Room := { frames := 2, cells := 4, slots := 40, locals := 60 }
def w_X7_handOver (P : jP) (gf : Nat) (M : jM) (N : jN) (Q : Nat → jP → jM → jN → Prop) : Prop :=
  P.2.1 4 = true ∧
  gf < 200 ∧
  ((M 4 9).toNatClampNeg) ≠ 0 ∧
  P.2.1 ((M 4 9).toNatClampNeg) = true ∧
  cFm P ((M 4 9).toNatClampNeg) = true ∧
  presK P ∧
  ∀ M6 : jM, M6 = fM (upM M ((M 4 9).toNatClampNeg) 0 (M 4 4)) →
  kob gf = some (2, [0, gf + 1, gf + 2, gf + 3]) ∧
  rfree kob LC P M6 gf ∧
  ∀ b8 : Nat,
  ∀ P9 : jP, P9 = pnew P gf b8 →
  w_X2_init P9 gf (zM M6 gf) (zN N gf) (fun P16 M17 N18 =>
  (∀ k, P16.2.1 k = true → ∀ j, rsl k j = true → M17 k j ≠ 0) ∧
  presK P16 ∧
  gf < 2147483648 ∧
  gf ≠ 0 ∧
  Q ((M 4 9).toNatClampNeg) P16 (upM M17 4 9 (nI gf)) N18)
set_option maxRecDepth 20000 in
theorem c_X7_handOver (l : Launch) (P : jP) (gf : Nat) (M : jM) (N : jN) (Q : Nat → jP → jM → jN → Prop) (h : w_X7_handOver P gf M N Q) : jC l yX7_handOver cX7_handOver 2 (some (.object "CoalForm$Form")) rm_X7_handOver LC [.ref (P.1 4)] P M N (jqrP P Q) := by
  refine jC_of (by decide +kernel) [(0, .ref (P.1 4))] (Nat.le_of_ble_eq_true rfl) rfl (fun X o => ?_)
  obtain ⟨E, hE⟩ : ∃ E, E = jE X rm_X7_handOver (jqrP P Q) := ⟨_, rfl⟩
  rw [← hE]
  unfold w_X7_handOver at h
  obtain ⟨hp1, h⟩ := h
  obtain ⟨hg_gf, h⟩ := h
  refine j_aload_n o dX7_handOver_0 rfl ?_
  refine j_getf o (g := 4) (slot := 9) (ci := 7) (v := jrf P ((M 4 9).toNatClampNeg)) rfl jin_X7 (by decide) rfl jf_X7_30 (fun _ => rfl) rfl dX7_handOver_1 ?_
  refine j_qstore_n o [(1, jrf P ((M 4 9).toNatClampNeg)), (0, .ref (P.1 4))] dX7_handOver_4 (by decide) rfl ?_
  refine j_qload_n o (g := (M 4 9).toNatClampNeg) rfl dX7_handOver_5 ?_
  refine j_aload_n o dX7_handOver_6 rfl ?_
  refine j_getf o (g := 4) (slot := 4) (ci := 7) (v := .int (M 4 4)) rfl jin_X7 (by decide) rfl jf_X7_50 (fun _ => rfl) rfl dX7_handOver_7 ?_
  obtain ⟨hq2, h⟩ := h
  rw [jrf_n P hq2]
  obtain ⟨hp3, h⟩ := h
  obtain ⟨hb4, h⟩ := h
  refine j_putf o (M1 := upM M ((M 4 9).toNatClampNeg) 0 (M 4 4)) (N1 := N) (g := (M 4 9).toNatClampNeg) (slot := 0) (ci := 2) (ty := .int) rfl jin_X2 tyX2_ok nmX2 (by decide) rfl rfl jf_X7_142 (by decide +kernel) rfl rfl (Nat.le_of_ble_eq_true rfl) (fun tA => LC_fm hb4 tA _ _) (fun tA => (LC_fm hb4 tA _ _).trans (by rw [upM_same] <;> rfl)) (fun _ hj => upM_ne _ _ _ hj) (fun _ _ => rfl) dX7_handOver_10 ?_
  refine j_aload_n o dX7_handOver_13 rfl ?_
  obtain ⟨hk5, h⟩ := h
  refine j_inK o hk5 ?_
  have oC := o
  obtain ⟨XK, hXK⟩ : ∃ X9, X9 = jsw X (LR kob LC) := ⟨_, rfl⟩
  rw [← hXK]
  have o := oC.sw (LR kob LC)
  rw [← hXK] at o
  refine j_nameM (fun M6 hM6 => ?_)
  replace h := h M6 hM6
  obtain ⟨hob, h⟩ := h
  obtain ⟨hf7, h⟩ := h
  refine r_new (g := gf) (ci := 2) (fs := [.int 0, .null, .null, .null]) o rfl jin_X2 tyX2_ok iw_X7_27 (fun j hj => by rcases (show j = 0 ∨ j = 1 ∨ j = 2 ∨ j = 3 by omega) with rfl | rfl | rfl | rfl <;> rfl) hf7.hold (fun a tA e he => rnew_ob hob (rf_form _ hg_gf) he) ⟨Nat.le_of_ble_eq_true rfl, Nat.le_of_ble_eq_true rfl⟩ dX7_handOver_14 (fun b8 => ?_)
  obtain ⟨P9, hP10⟩ : ∃ P9, P9 = pnew P gf b8 := ⟨_, rfl⟩
  rw [← hP10]
  replace h := h b8 P9 hP10
  have hx11 : Pext P P9 := (by rw [hP10]; exact Pext.new hf7.1)
  have hp12 : P9.2.1 4 = true := (hx11.1 _ hp1).1
  have hp13 : P9.2.1 ((M 4 9).toNatClampNeg) = true := (hx11.1 _ hp3).1
  have hp14 : P9.2.1 gf = true := (by rw [hP10]; exact (pnew_at _ _ _).1)
  have hp14a : P9.1 gf = b8 := (show P9.1 gf = b8 by rw [hP10]; exact (pnew_at _ _ _).2)
  refine j_conv (lo' := [(1, .ref (P9.1 ((M 4 9).toNatClampNeg))), (0, .ref (P9.1 4))]) (st' := [.ref (P9.1 gf), .ref (P9.1 4)]) (by rw [(hx11.1 4 hp1).2, (hx11.1 ((M 4 9).toNatClampNeg) hp3).2] <;> rfl) (by rw [(hx11.1 4 hp1).2, hp14a] <;> rfl) ?_
  have hw15 : Pext P P9 := hx11
  refine j_dup o dX7_handOver_17 rfl ?_
  refine j_callIN o (c_X2_init l P9 gf (zM M6 gf) (zN N gf) _ h) dX7_handOver_18 rfl ic_X7_29 iq_X7_29 (jNm_2 ij_X2_init rfl) ⟨⟨Nat.le_of_ble_eq_true rfl, Nat.le_of_ble_eq_true rfl⟩, Nat.le_of_ble_eq_true rfl, Nat.le_of_ble_eq_true rfl⟩ (Nat.le_of_ble_eq_true rfl) rfl (fun v9 P16 M17 N18 hq19 => ?_)
  obtain ⟨rfl, hx20, h⟩ := hq19
  have hx21 : Pext P9 P16 := hx20
  have hp22 : P16.2.1 4 = true := (hx21.1 _ hp12).1
  have hp23 : P16.2.1 ((M 4 9).toNatClampNeg) = true := (hx21.1 _ hp13).1
  have hp24 : P16.2.1 gf = true := (hx21.1 _ hp14).1
  refine j_conv (lo' := [(1, .ref (P16.1 ((M 4 9).toNatClampNeg))), (0, .ref (P16.1 4))]) (st' := [.ref (P16.1 gf), .ref (P16.1 4)]) (by rw [(hx21.1 4 hp12).2, (hx21.1 ((M 4 9).toNatClampNeg) hp13).2] <;> rfl) (by rw [(hx21.1 4 hp12).2, (hx21.1 gf hp14).2] <;> rfl) ?_
  have hw25 : Pext P P16 := hw15.trans hx21
  obtain ⟨hfl26, h⟩ := h
  obtain ⟨hpk27, h⟩ := h
  rw [hXK]
  refine j_ofK oC hpk27 hfl26 ?_
  replace o := oC
  clear oC
  obtain ⟨hk28, h⟩ := h
  obtain ⟨hn29, h⟩ := h
  refine j_putf o (M1 := upM M17 4 9 (nI gf)) (N1 := N18) (g := 4) (slot := 9) (ci := 7) (ty := .object "CoalForm$Form") rfl jin_X7 tyX7_ok nmX7 (by decide) rfl rfl jf_X7_30 (by decide +kernel) rfl rfl (Nat.le_of_ble_eq_true rfl) (fun _ => rfl) (fun _ => by rw [← (jrf_k1 (P := P16) hk28 hn29)]; rfl) (fun _ hj => upM_ne _ _ _ hj) (fun _ _ => rfl) dX7_handOver_21 ?_
  refine j_aload_n o dX7_handOver_24 rfl ?_
  refine j_widen (k' := rm_X7_handOver.cells) (n' := rm_X7_handOver.slots) (Nat.le_of_ble_eq_true rfl) (Nat.le_of_ble_eq_true rfl) ?_
  rw [hE]
  rw [← jrf_n P16 (g := (M 4 9).toNatClampNeg) hq2]
  exact j_aret o rfl (jrf_ref _ _) dX7_handOver_25 ⟨_, rfl, hw25, h⟩

abbrev rm_X11_keepForm : Room := { frames := 3, cells := 4, slots := 40, locals := 81 }
def w_X11_keepForm (P : jP) (gf : Nat) (M : jM) (N : jN) (Q : Int32 → jP → jM → jN → Prop) : Prop :=
  P.2.1 1 = true ∧
  gf < 200 ∧
  ((M 1 12) < 6 → (
   P.2.1 12 = true ∧
   P.2.1 4 = true ∧
   w_X7_handOver P gf M N (fun r10 P5 M6 N7 =>
   r10 ≠ 0 ∧
   cFm P5 r10 = true ∧
   (r10 ≠ 0 ∧ r10 < 2 ^ 31) ∧
   vp_in (M 1 12) (6) ∧
   ∀ M19 : jM, M19 = upM M6 12 (M 1 12).toNatClampNeg (nI r10) →
   Q (M19 1 12) P5 (upM M19 1 12 ((M19 1 12) + 1)) N7)
  )) ∧ (¬ (M 1 12) < 6 → (
   Q (-1) P M N
  ))
set_option maxRecDepth 20000 in
theorem c_X11_keepForm (l : Launch) (P : jP) (gf : Nat) (M : jM) (N : jN) (Q : Int32 → jP → jM → jN → Prop) (h : w_X11_keepForm P gf M N Q) : jC l yX11_keepForm cX11_keepForm 1 (some .int) rm_X11_keepForm LC [.ref (P.1 1)] P M N (jqiP P Q) := by
  refine jC_of (by decide +kernel) [(0, .ref (P.1 1))] (Nat.le_of_ble_eq_true rfl) rfl (fun X o => ?_)
  obtain ⟨E, hE⟩ : ∃ E, E = jE X rm_X11_keepForm (jqiP P Q) := ⟨_, rfl⟩
  rw [← hE]
  unfold w_X11_keepForm at h
  obtain ⟨hp1, h⟩ := h
  obtain ⟨hg_gf, h⟩ := h
  refine j_aload_n o dX11_keepForm_0 rfl ?_
  refine j_getf o (g := 1) (slot := 12) (ci := 11) (v := .int (M 1 12)) rfl jin_X11 (by decide) rfl jf_X11_184 (fun _ => rfl) rfl dX11_keepForm_1 ?_
  refine j_bipush o (v := 6) dX11_keepForm_4 rfl ?_
  refine j_icmp_lt o (tgt := 11) dX11_keepForm_6 (by decide) (fun c2 => ?_) (fun c2 => ?_)
  · replace h := h.1 c2
    refine j_aload_n o dX11_keepForm_11 rfl ?_
    refine j_getf o (g := 1) (slot := 11) (ci := 11) (v := .ref (P.1 12)) rfl jin_X11 (by decide) rfl jf_X11_101 (fun _ => rfl) rfl dX11_keepForm_12 ?_
    refine j_aload_n o dX11_keepForm_15 rfl ?_
    refine j_getf o (g := 1) (slot := 12) (ci := 11) (v := .int (M 1 12)) rfl jin_X11 (by decide) rfl jf_X11_184 (fun _ => rfl) rfl dX11_keepForm_16 ?_
    refine j_aload_n o dX11_keepForm_19 rfl ?_
    refine j_getf o (g := 1) (slot := 2) (ci := 11) (v := .ref (P.1 4)) rfl jin_X11 (by decide) rfl jf_X11_39 (fun _ => rfl) rfl dX11_keepForm_20 ?_
    obtain ⟨hp3, h⟩ := h
    obtain ⟨hp4, h⟩ := h
    refine j_callV (g := 4) (ci := 7) o (c_X7_handOver l P gf M N _ h) dX11_keepForm_23 jc_X11_187 (jNm_2 jn_X7_handOver rfl) ⟨⟨Nat.le_of_ble_eq_true rfl, Nat.le_of_ble_eq_true rfl⟩, Nat.le_of_ble_eq_true rfl, Nat.le_of_ble_eq_true rfl⟩ rfl (fun _ => rfl) (Nat.le_of_ble_eq_true rfl) rfl (fun v9 P5 M6 N7 hq8 => ?_)
    obtain ⟨r10, rfl, hx9, h⟩ := hq8
    have hp11 : P5.2.1 1 = true := (hx9.1 _ hp1).1
    have hp12 : P5.2.1 12 = true := (hx9.1 _ hp3).1
    have hp13 : P5.2.1 4 = true := (hx9.1 _ hp4).1
    refine j_conv (lo' := [(0, .ref (P5.1 1))]) (st' := [jrf P5 r10, .int (M 1 12), .ref (P5.1 12)]) (by rw [(hx9.1 1 hp1).2] <;> rfl) (by rw [(hx9.1 12 hp3).2] <;> rfl) ?_
    have hw14 : Pext P P5 := hx9
    obtain ⟨hq15, h⟩ := h
    rw [jrf_n P5 hq15]
    obtain ⟨hb16, h⟩ := h
    obtain ⟨hv17, h⟩ := h
    obtain ⟨hi18, h⟩ := h
    refine j_aast (g := 12) (gv := r10) (ti := 5) (nn := 6) (ci := 2) o (fun _ => rfl) rfl (fun _ _ _ => rfl) (fun tA => LC_fm hb16 tA _ _) hv17 hi18 dX11_keepForm_26 ?_
    refine j_nameM (fun M19 hM19 => ?_)
    replace h := h M19 hM19
    refine j_aload_n o dX11_keepForm_27 rfl ?_
    refine j_dup o dX11_keepForm_28 rfl ?_
    refine j_getf o (g := 1) (slot := 12) (ci := 11) (v := .int (M19 1 12)) rfl jin_X11 (by decide) rfl jf_X11_184 (fun _ => rfl) rfl dX11_keepForm_29 ?_
    refine j_dup_x1 o dX11_keepForm_32 rfl rfl ?_
    refine j_iconst o (v := 1) dX11_keepForm_33 rfl ?_
    refine j_iadd o dX11_keepForm_34 ?_
    refine j_putf o (M1 := upM M19 1 12 ((M19 1 12) + 1)) (N1 := N7) (g := 1) (slot := 12) (ci := 11) (ty := .int) rfl jin_X11 tyX11_ok nmX11 (by decide) rfl rfl jf_X11_184 (by decide +kernel) rfl rfl (Nat.le_of_ble_eq_true rfl) (fun _ => rfl) (fun _ => rfl) (fun _ hj => upM_ne _ _ _ hj) (fun _ _ => rfl) dX11_keepForm_35 ?_
    refine j_widen (k' := rm_X11_keepForm.cells) (n' := rm_X11_keepForm.slots) (Nat.le_of_ble_eq_true rfl) (Nat.le_of_ble_eq_true rfl) ?_
    rw [hE]
    exact j_iret o dX11_keepForm_38 ⟨_, rfl, hw14, h⟩
  · replace h := h.2 c2
    refine j_iconst o (v := (-1)) dX11_keepForm_9 rfl ?_
    refine j_widen (k' := rm_X11_keepForm.cells) (n' := rm_X11_keepForm.slots) (Nat.le_of_ble_eq_true rfl) (Nat.le_of_ble_eq_true rfl) ?_
    rw [hE]
    exact j_iret o dX11_keepForm_10 ⟨_, rfl, (Pext.refl _), h⟩

abbrev rm_X11_keepLaw : Room := { frames := 4, cells := 5, slots := 20726, locals := 92 }
def w_X11_keepLaw (P : jP) (gl : Nat) (M : jM) (N : jN) (Q : Int32 → jP → jM → jN → Prop) : Prop :=
  P.2.1 1 = true ∧
  gl < 200 ∧
  ((M 1 10) < 6 → (
   presK P ∧
   kob gl = some (4, [0, gl + 1, gl + 2, gl + 3, gl + 4, 0, 0]) ∧
   rfree kob LC P (fM M) gl ∧
   ∀ b5 : Nat,
   ∀ P6 : jP, P6 = pnew P gl b5 →
   ¬ (zM (fM M) gl) 1 2 = 0 ∧
   P6.2.1 4 = true ∧
   ¬ (zM (fM M) gl) 1 0 = 0 ∧
   P6.2.1 2 = true ∧
   ¬ (zM (fM M) gl) 1 0 = 0 ∧
   w_X4_init P6 gl ((zM (fM M) gl) 4 4) ((zM (fM M) gl) 2 2) ((zM (fM M) gl) 2 3) (zM (fM M) gl) (zN N gl) (fun P17 M18 N19 =>
   (∀ k, P17.2.1 k = true → ∀ j, rsl k j = true → M18 k j ≠ 0) ∧
   presK P17 ∧
   cLw P17 gl = true ∧
   cIA P17 (gl + 1) = some 12 ∧
   (19 ≠ (gl + 1)) ∧
   ∀ M33 : jM, M33 = (fun q => if q = gl + 1 then (fun j => if j < 12 then M18 19 j else M18 (gl + 1) j) else M18 q) →
   ∀ R60 : Int32 → jM → Prop, (∀ (x34 : Int32) (M35 : jM), (
    ((M35 2 2) ≤ x34 → (
     w_X1_fillWays P17 gl M35 (fun M37 =>
     cLw P17 gl = true ∧
     (gl ≠ 0 ∧ gl < 2 ^ 31) ∧
     vp_in (M37 1 10) (6) ∧
     ∀ M42 : jM, M42 = upM M37 11 (M37 1 10).toNatClampNeg (nI gl) →
     Q (M42 1 10) P17 (upM M42 1 10 ((M42 1 10) + 1)) N19)
    )) ∧ (¬ (M35 2 2) ≤ x34 → (
     cLw P17 gl = true ∧
     w_X7_clausesThatHold P17 x34 M35 (fun r44 =>
     jin P17 (gl + 2) x34 ∧
     cLw P17 gl = true ∧
     cLw P17 gl = true ∧
     jin P17 (gl + 2) x34 ∧
     cLw P17 gl = true ∧
     w_X4_outcomeOf P17 gl ((upM M35 (gl + 2) x34.toNatClampNeg r44) (gl + 2) x34.toNatClampNeg) (upM M35 (gl + 2) x34.toNatClampNeg r44) (fun r51 =>
     jin P17 (gl + 3) x34 ∧
     ∀ M56 : jM, M56 = upM (upM M35 (gl + 2) x34.toNatClampNeg r44) (gl + 3) x34.toNatClampNeg r51 →
     R60 (x34 + 1) M56))
    ))
   ) → R60 x34 M35) →
   R60 0 M33)
  )) ∧ (¬ (M 1 10) < 6 → (
   Q (-1) P M N
  ))
set_option maxRecDepth 20000 in
theorem c_X11_keepLaw (l : Launch) (P : jP) (gl : Nat) (M : jM) (N : jN) (Q : Int32 → jP → jM → jN → Prop) (h : w_X11_keepLaw P gl M N Q) : jC l yX11_keepLaw cX11_keepLaw 3 (some .int) rm_X11_keepLaw LC [.ref (P.1 1)] P M N (jqiP P Q) := by
  refine jC_of (by decide +kernel) [(0, .ref (P.1 1))] (Nat.le_of_ble_eq_true rfl) rfl (fun X o => ?_)
  obtain ⟨E, hE⟩ : ∃ E, E = jE X rm_X11_keepLaw (jqiP P Q) := ⟨_, rfl⟩
  rw [← hE]
  unfold w_X11_keepLaw at h
  obtain ⟨hp1, h⟩ := h
  obtain ⟨hg_gl, h⟩ := h
  refine j_aload_n o dX11_keepLaw_0 rfl ?_
  refine j_getf o (g := 1) (slot := 10) (ci := 11) (v := .int (M 1 10)) rfl jin_X11 (by decide) rfl jf_X11_136 (fun _ => rfl) rfl dX11_keepLaw_1 ?_
  refine j_bipush o (v := 6) dX11_keepLaw_4 rfl ?_
  refine j_icmp_lt o (tgt := 11) dX11_keepLaw_6 (by decide) (fun c2 => ?_) (fun c2 => ?_)
  · replace h := h.1 c2
    obtain ⟨hk3, h⟩ := h
    refine j_inK o hk3 ?_
    have oC := o
    obtain ⟨XK, hXK⟩ : ∃ X9, X9 = jsw X (LR kob LC) := ⟨_, rfl⟩
    rw [← hXK]
    have o := oC.sw (LR kob LC)
    rw [← hXK] at o
    obtain ⟨hob, h⟩ := h
    obtain ⟨hf4, h⟩ := h
    refine r_new (g := gl) (ci := 4) (fs := [.int 0, .null, .null, .null, .null, .int 0, .int 0]) o rfl jin_X4 tyX4_ok iw_X11_93 (fun j hj => by rcases (show j = 0 ∨ j = 1 ∨ j = 2 ∨ j = 3 ∨ j = 4 ∨ j = 5 ∨ j = 6 by omega) with rfl | rfl | rfl | rfl | rfl | rfl | rfl <;> rfl) hf4.hold (fun a tA e he => rnew_ob hob (rf_law _ hg_gl) he) ⟨Nat.le_of_ble_eq_true rfl, Nat.le_of_ble_eq_true rfl⟩ dX11_keepLaw_11 (fun b5 => ?_)
    obtain ⟨P6, hP7⟩ : ∃ P9, P9 = pnew P gl b5 := ⟨_, rfl⟩
    rw [← hP7]
    replace h := h b5 P6 hP7
    have hx8 : Pext P P6 := (by rw [hP7]; exact Pext.new hf4.1)
    have hp9 : P6.2.1 1 = true := (hx8.1 _ hp1).1
    have hp10 : P6.2.1 gl = true := (by rw [hP7]; exact (pnew_at _ _ _).1)
    have hp10a : P6.1 gl = b5 := (show P6.1 gl = b5 by rw [hP7]; exact (pnew_at _ _ _).2)
    refine j_conv (lo' := [(0, .ref (P6.1 1))]) (st' := [.ref (P6.1 gl)]) (by rw [(hx8.1 1 hp1).2] <;> rfl) (by rw [hp10a] <;> rfl) ?_
    have hw11 : Pext P P6 := hx8
    refine j_dup o dX11_keepLaw_14 rfl ?_
    refine j_aload_n o dX11_keepLaw_15 rfl ?_
    obtain ⟨hz12, h⟩ := h
    obtain ⟨hp13, h⟩ := h
    refine r_get (g := 1) (slot := 2) (ci := 11) (v := .ref (P6.1 4)) o hp9 rfl rfl (rfv_r0 (by decide) hz12) rfl jin_X11 (by decide) rfl jf_X11_39 dX11_keepLaw_16 ?_
    refine r_get (g := 4) (slot := 4) (ci := 7) (v := .int ((zM (fM M) gl) 4 4)) o hp13 rfl rfl rfl rfl jin_X7 (by decide) rfl jf_X11_139 dX11_keepLaw_19 ?_
    refine j_aload_n o dX11_keepLaw_22 rfl ?_
    obtain ⟨hz14, h⟩ := h
    obtain ⟨hp15, h⟩ := h
    refine r_get (g := 1) (slot := 0) (ci := 11) (v := .ref (P6.1 2)) o hp9 rfl rfl (rfv_r0 (by decide) hz14) rfl jin_X11 (by decide) rfl jf_X11_23 dX11_keepLaw_23 ?_
    refine r_get (g := 2) (slot := 2) (ci := 3) (v := .int ((zM (fM M) gl) 2 2)) o hp15 rfl rfl rfl rfl jin_X3 (by decide) rfl jf_X11_77 dX11_keepLaw_26 ?_
    refine j_aload_n o dX11_keepLaw_29 rfl ?_
    obtain ⟨hz16, h⟩ := h
    refine r_get (g := 1) (slot := 0) (ci := 11) (v := .ref (P6.1 2)) o hp9 rfl rfl (rfv_r0 (by decide) hz16) rfl jin_X11 (by decide) rfl jf_X11_23 dX11_keepLaw_30 ?_
    refine r_get (g := 2) (slot := 3) (ci := 3) (v := .int ((zM (fM M) gl) 2 3)) o hp15 rfl rfl rfl rfl jin_X3 (by decide) rfl jf_X11_142 dX11_keepLaw_33 ?_
    refine j_callI o (c_X4_init l P6 gl ((zM (fM M) gl) 4 4) ((zM (fM M) gl) 2 2) ((zM (fM M) gl) 2 3) (zM (fM M) gl) (zN N gl) _ h) dX11_keepLaw_36 rfl ic_X11_145 (jNm_2 ij_X4_init rfl) ⟨⟨Nat.le_of_ble_eq_true rfl, Nat.le_of_ble_eq_true rfl⟩, Nat.le_of_ble_eq_true rfl, Nat.le_of_ble_eq_true rfl⟩ (Nat.le_of_ble_eq_true rfl) rfl (fun v9 P17 M18 N19 hq20 => ?_)
    obtain ⟨rfl, hx21, h⟩ := hq20
    have hx22 : Pext P6 P17 := hx21
    have hp23 : P17.2.1 1 = true := (hx22.1 _ hp9).1
    have hp24 : P17.2.1 gl = true := (hx22.1 _ hp10).1
    have hp25 : P17.2.1 4 = true := (hx22.1 _ hp13).1
    have hp26 : P17.2.1 2 = true := (hx22.1 _ hp15).1
    refine j_conv (lo' := [(0, .ref (P17.1 1))]) (st' := [.ref (P17.1 gl)]) (by rw [(hx22.1 1 hp9).2] <;> rfl) (by rw [(hx22.1 gl hp10).2] <;> rfl) ?_
    have hw27 : Pext P P17 := hw11.trans hx22
    obtain ⟨hfl28, h⟩ := h
    obtain ⟨hpk29, h⟩ := h
    rw [hXK]
    refine j_ofK oC hpk29 hfl28 ?_
    replace o := oC
    clear oC
    refine j_astore_n o [(1, .ref (P17.1 gl)), (0, .ref (P17.1 1))] dX11_keepLaw_39 (by decide) rfl ?_
    refine j_aload_n o dX11_keepLaw_40 rfl ?_
    refine j_getf o (g := 1) (slot := 2) (ci := 11) (v := .ref (P17.1 4)) rfl jin_X11 (by decide) rfl jf_X11_39 (fun _ => rfl) rfl dX11_keepLaw_41 ?_
    refine j_getf o (g := 4) (slot := 5) (ci := 7) (v := .ref (P17.1 19)) rfl jin_X7 (by decide) rfl jf_X11_148 (fun _ => rfl) rfl dX11_keepLaw_44 ?_
    refine j_iconst o (v := 0) dX11_keepLaw_47 rfl ?_
    refine j_aload_n o dX11_keepLaw_48 rfl ?_
    obtain ⟨hb30, h⟩ := h
    refine j_getf o (g := gl) (slot := 1) (ci := 4) (v := .ref (P17.1 (gl + 1))) rfl jin_X4 (by decide) rfl jf_X11_151 (fun tA => LC_lw hb30 tA _ _) rfl dX11_keepLaw_49 ?_
    refine j_iconst o (v := 0) dX11_keepLaw_52 rfl ?_
    refine j_bipush o (v := 12) dX11_keepLaw_53 rfl ?_
    obtain ⟨hc31, h⟩ := h
    obtain ⟨hn32, h⟩ := h
    refine j_copy (g1 := 19) (g2 := gl + 1) o hn32 (fun _ _ _ => rfl) (LC_ia hc31) iac_X11_152 ⟨Nat.le_of_ble_eq_true rfl, Nat.le_of_ble_eq_true rfl⟩ dX11_keepLaw_55 ?_
    refine j_nameM (fun M33 hM33 => ?_)
    replace h := h M33 hM33
    refine j_iconst o (v := 0) dX11_keepLaw_58 rfl ?_
    refine j_istore_n o [(2, .int 0), (1, .ref (P17.1 gl)), (0, .ref (P17.1 1))] dX11_keepLaw_59 (by decide) rfl ?_
    replace h := h (fun (x34 : Int32) (M35 : jM) => J X P17 M35 N19 5 20726 E 3 60 [(0, .ref (P17.1 1)), (1, .ref (P17.1 gl)), (2, .int x34)] []) (by
      intro x34 M35 h
      refine j_iload_n o dX11_keepLaw_60 rfl ?_
      refine j_aload_n o dX11_keepLaw_61 rfl ?_
      refine j_getf o (g := 1) (slot := 0) (ci := 11) (v := .ref (P17.1 2)) rfl jin_X11 (by decide) rfl jf_X11_23 (fun _ => rfl) rfl dX11_keepLaw_62 ?_
      refine j_getf o (g := 2) (slot := 2) (ci := 3) (v := .int (M35 2 2)) rfl jin_X3 (by decide) rfl jf_X11_77 (fun _ => rfl) rfl dX11_keepLaw_65 ?_
      refine j_icmp_ge o (tgt := 107) dX11_keepLaw_68 (by decide) (fun c36 => ?_) (fun c36 => ?_)
      · replace h := h.1 c36
        refine j_aload_n o dX11_keepLaw_107 rfl ?_
        refine j_getf o (g := 1) (slot := 3) (ci := 11) (v := .ref (P17.1 5)) rfl jin_X11 (by decide) rfl jf_X11_48 (fun _ => rfl) rfl dX11_keepLaw_108 ?_
        refine j_aload_n o dX11_keepLaw_111 rfl ?_
        refine j_callVv (g := 5) (ci := 1) o (c_X1_fillWays l P17 gl M35 N19 _ h) dX11_keepLaw_112 jc_X11_170 jn_X1_fillWays rfl rfl rfl (fun _ => rfl) rfl rfl (fun M37 Nz38 h => ?_)
        obtain ⟨rfl, h⟩ := h
        refine j_aload_n o dX11_keepLaw_115 rfl ?_
        refine j_getf o (g := 1) (slot := 9) (ci := 11) (v := .ref (P17.1 11)) rfl jin_X11 (by decide) rfl jf_X11_95 (fun _ => rfl) rfl dX11_keepLaw_116 ?_
        refine j_aload_n o dX11_keepLaw_119 rfl ?_
        refine j_getf o (g := 1) (slot := 10) (ci := 11) (v := .int (M37 1 10)) rfl jin_X11 (by decide) rfl jf_X11_136 (fun _ => rfl) rfl dX11_keepLaw_120 ?_
        refine j_aload_n o dX11_keepLaw_123 rfl ?_
        obtain ⟨hb39, h⟩ := h
        obtain ⟨hv40, h⟩ := h
        obtain ⟨hi41, h⟩ := h
        refine j_aast (g := 11) (gv := gl) (ti := 4) (nn := 6) (ci := 4) o (fun _ => rfl) rfl (fun _ _ _ => rfl) (fun tA => LC_lw hb39 tA _ _) hv40 hi41 dX11_keepLaw_124 ?_
        refine j_nameM (fun M42 hM42 => ?_)
        replace h := h M42 hM42
        refine j_aload_n o dX11_keepLaw_125 rfl ?_
        refine j_dup o dX11_keepLaw_126 rfl ?_
        refine j_getf o (g := 1) (slot := 10) (ci := 11) (v := .int (M42 1 10)) rfl jin_X11 (by decide) rfl jf_X11_136 (fun _ => rfl) rfl dX11_keepLaw_127 ?_
        refine j_dup_x1 o dX11_keepLaw_130 rfl rfl ?_
        refine j_iconst o (v := 1) dX11_keepLaw_131 rfl ?_
        refine j_iadd o dX11_keepLaw_132 ?_
        refine j_putf o (M1 := upM M42 1 10 ((M42 1 10) + 1)) (N1 := N19) (g := 1) (slot := 10) (ci := 11) (ty := .int) rfl jin_X11 tyX11_ok nmX11 (by decide) rfl rfl jf_X11_136 (by decide +kernel) rfl rfl (Nat.le_of_ble_eq_true rfl) (fun _ => rfl) (fun _ => rfl) (fun _ hj => upM_ne _ _ _ hj) (fun _ _ => rfl) dX11_keepLaw_133 ?_
        refine j_widen (k' := rm_X11_keepLaw.cells) (n' := rm_X11_keepLaw.slots) (Nat.le_of_ble_eq_true rfl) (Nat.le_of_ble_eq_true rfl) ?_
        rw [hE]
        exact j_iret o dX11_keepLaw_136 ⟨_, rfl, hw27, h⟩
      · replace h := h.2 c36
        refine j_aload_n o dX11_keepLaw_71 rfl ?_
        obtain ⟨hb43, h⟩ := h
        refine j_getf o (g := gl) (slot := 2) (ci := 4) (v := .ref (P17.1 (gl + 2))) rfl jin_X4 (by decide) rfl jf_X11_158 (fun tA => LC_lw hb43 tA _ _) rfl dX11_keepLaw_72 ?_
        refine j_iload_n o dX11_keepLaw_75 rfl ?_
        refine j_aload_n o dX11_keepLaw_76 rfl ?_
        refine j_getf o (g := 1) (slot := 2) (ci := 11) (v := .ref (P17.1 4)) rfl jin_X11 (by decide) rfl jf_X11_39 (fun _ => rfl) rfl dX11_keepLaw_77 ?_
        refine j_iload_n o dX11_keepLaw_80 rfl ?_
        refine j_callVi (g := 4) (ci := 7) o (c_X7_clausesThatHold l P17 x34 M35 N19 _ h) dX11_keepLaw_81 jc_X11_161 jn_X7_clausesThatHold rfl rfl rfl (fun _ => rfl) rfl rfl (fun r44 Mz45 Nz46 h => ?_)
        obtain ⟨rfl, rfl, h⟩ := h
        obtain ⟨hb47, h⟩ := h
        obtain ⟨nnhb47, hchb47, hihb47⟩ := hb47
        refine j_iast o (g := gl + 2) (LC_ia hchb47) hihb47 dX11_keepLaw_84 ?_
        refine j_aload_n o dX11_keepLaw_85 rfl ?_
        obtain ⟨hb48, h⟩ := h
        refine j_getf o (g := gl) (slot := 3) (ci := 4) (v := .ref (P17.1 (gl + 3))) rfl jin_X4 (by decide) rfl jf_X11_164 (fun tA => LC_lw hb48 tA _ _) rfl dX11_keepLaw_86 ?_
        refine j_iload_n o dX11_keepLaw_89 rfl ?_
        refine j_aload_n o dX11_keepLaw_90 rfl ?_
        refine j_aload_n o dX11_keepLaw_91 rfl ?_
        obtain ⟨hb49, h⟩ := h
        refine j_getf o (g := gl) (slot := 2) (ci := 4) (v := .ref (P17.1 (gl + 2))) rfl jin_X4 (by decide) rfl jf_X11_158 (fun tA => LC_lw hb49 tA _ _) rfl dX11_keepLaw_92 ?_
        refine j_iload_n o dX11_keepLaw_95 rfl ?_
        obtain ⟨hb50, h⟩ := h
        obtain ⟨nnhb50, hchb50, hihb50⟩ := hb50
        refine j_iald o (g := gl + 2) (fun tA => LC_ia hchb50 tA _ _) hihb50 dX11_keepLaw_96 ?_
        obtain ⟨hb54, h⟩ := h
        refine j_callVi (g := gl) (ci := 4) o (c_X4_outcomeOf l P17 gl ((upM M35 (gl + 2) x34.toNatClampNeg r44) (gl + 2) x34.toNatClampNeg) (upM M35 (gl + 2) x34.toNatClampNeg r44) N19 _ h) dX11_keepLaw_97 jc_X11_167 jn_X4_outcomeOf rfl rfl rfl (fun tA => LC_lw hb54 tA _ _) rfl rfl (fun r51 Mz52 Nz53 h => ?_)
        obtain ⟨rfl, rfl, h⟩ := h
        obtain ⟨hb55, h⟩ := h
        obtain ⟨nnhb55, hchb55, hihb55⟩ := hb55
        refine j_iast o (g := gl + 3) (LC_ia hchb55) hihb55 dX11_keepLaw_100 ?_
        refine j_nameM (fun M56 hM56 => ?_)
        replace h := h M56 hM56
        refine j_iinc o (v := x34 + 1) [(2, .int (x34 + 1)), (0, .ref (P17.1 1)), (1, .ref (P17.1 gl))] dX11_keepLaw_101 rfl rfl (by decide) rfl ?_
        refine j_goto o (tgt := 60) dX11_keepLaw_104 (by decide) ?_
        exact j_pick [1, 2, 0] rfl h)
    exact j_pick [2, 1, 0] rfl h
  · replace h := h.2 c2
    refine j_iconst o (v := (-1)) dX11_keepLaw_9 rfl ?_
    refine j_widen (k' := rm_X11_keepLaw.cells) (n' := rm_X11_keepLaw.slots) (Nat.le_of_ble_eq_true rfl) (Nat.le_of_ble_eq_true rfl) ?_
    rw [hE]
    exact j_iret o dX11_keepLaw_10 ⟨_, rfl, (Pext.refl _), h⟩

abbrev rm_X11_text : Room := { frames := 47, cells := 5, slots := 20726, locals := 1072 }
def w_X11_text (P : jP) (a1 : Int32) (gl : Nat) (gf : Nat) (M : jM) (N : jN) (Q : Int32 → jP → jM → jN → Prop) : Prop :=
  P.2.1 1 = true ∧
  gl < 200 ∧
  gf < 200 ∧
  (a1 < 0 → (
   Q (-1) P M N
  )) ∧ (¬ a1 < 0 → (
   (2 < a1 → (
    Q (-1) P M N
   )) ∧ (¬ 2 < a1 → (
    w_X7_readAs P a1 M (fun r4 M5 =>
    (r4 = (-1) → (
     (¬ a1 = 0 → (
      (¬ a1 = 1 → (
       w_X11_keepForm P gf M5 N (fun r15 P10 M11 N12 =>
       (r15 = (-1) → (
        Q r15 P10 M11 N12
       )) ∧ (¬ r15 = (-1) → (
        Q r15 P10 (upM M11 3 1 0) N12
       )))
      )) ∧ (a1 = 1 → (
       w_X11_keepQuestion P M5 (fun r19 M20 =>
       (r19 = (-1) → (
        Q r19 P M20 N
       )) ∧ (¬ r19 = (-1) → (
        Q r19 P (upM M20 3 1 0) N
       )))
      ))
     )) ∧ (a1 = 0 → (
      w_X11_keepLaw P gl M5 N (fun r28 P23 M24 N25 =>
      (r28 = (-1) → (
       Q r28 P23 M24 N25
      )) ∧ (¬ r28 = (-1) → (
       Q r28 P23 (upM M24 3 1 0) N25
      )))
     ))
    )) ∧ (¬ r4 = (-1) → (
     Q (-1) P M5 N
    )))
   ))
  ))
set_option maxRecDepth 20000 in
theorem c_X11_text (l : Launch) (P : jP) (a1 : Int32) (gl : Nat) (gf : Nat) (M : jM) (N : jN) (Q : Int32 → jP → jM → jN → Prop) (h : w_X11_text P a1 gl gf M N Q) : jC l yX11_text cX11_text 3 (some .int) rm_X11_text LC [.ref (P.1 1), .int a1] P M N (jqiP P Q) := by
  refine jC_of (by decide +kernel) [(0, .ref (P.1 1)), (1, .int a1)] (Nat.le_of_ble_eq_true rfl) rfl (fun X o => ?_)
  obtain ⟨E, hE⟩ : ∃ E, E = jE X rm_X11_text (jqiP P Q) := ⟨_, rfl⟩
  rw [← hE]
  unfold w_X11_text at h
  obtain ⟨hp1, h⟩ := h
  obtain ⟨hg_gl, h⟩ := h
  obtain ⟨hg_gf, h⟩ := h
  refine j_iload_n o dX11_text_0 rfl ?_
  refine j_if_lt o (tgt := 21) dX11_text_1 (by decide) (fun c2 => ?_) (fun c2 => ?_)
  · replace h := h.1 c2
    refine j_iconst o (v := (-1)) dX11_text_21 rfl ?_
    refine j_widen (k' := rm_X11_text.cells) (n' := rm_X11_text.slots) (Nat.le_of_ble_eq_true rfl) (Nat.le_of_ble_eq_true rfl) ?_
    rw [hE]
    exact j_iret o dX11_text_22 ⟨_, rfl, (Pext.refl _), h⟩
  · replace h := h.2 c2
    refine j_iload_n o dX11_text_4 rfl ?_
    refine j_iconst o (v := 2) dX11_text_5 rfl ?_
    refine j_icmp_gt o (tgt := 21) dX11_text_6 (by decide) (fun c3 => ?_) (fun c3 => ?_)
    · replace h := h.1 c3
      refine j_iconst o (v := (-1)) dX11_text_21 rfl ?_
      refine j_widen (k' := rm_X11_text.cells) (n' := rm_X11_text.slots) (Nat.le_of_ble_eq_true rfl) (Nat.le_of_ble_eq_true rfl) ?_
      rw [hE]
      exact j_iret o dX11_text_22 ⟨_, rfl, (Pext.refl _), h⟩
    · replace h := h.2 c3
      refine j_aload_n o dX11_text_9 rfl ?_
      refine j_getf o (g := 1) (slot := 2) (ci := 11) (v := .ref (P.1 4)) rfl jin_X11 (by decide) rfl jf_X11_39 (fun _ => rfl) rfl dX11_text_10 ?_
      refine j_iload_n o dX11_text_13 rfl ?_
      refine j_callVi (g := 4) (ci := 7) o (c_X7_readAs l P a1 M N _ h) dX11_text_14 jc_X11_123 jn_X7_readAs rfl rfl rfl (fun _ => rfl) rfl rfl (fun r4 M5 Nz6 h => ?_)
      obtain ⟨rfl, h⟩ := h
      refine j_iconst o (v := (-1)) dX11_text_17 rfl ?_
      refine j_icmp_eq o (tgt := 23) dX11_text_18 (by decide) (fun c7 => ?_) (fun c7 => ?_)
      · replace h := h.1 c7
        refine j_iload_n o dX11_text_23 rfl ?_
        refine j_if_ne o (tgt := 34) dX11_text_24 (by decide) (fun c8 => ?_) (fun c8 => ?_)
        · replace h := h.1 c8
          refine j_iload_n o dX11_text_34 rfl ?_
          refine j_iconst o (v := 1) dX11_text_35 rfl ?_
          refine j_icmp_ne o (tgt := 46) dX11_text_36 (by decide) (fun c9 => ?_) (fun c9 => ?_)
          · replace h := h.1 c9
            refine j_aload_n o dX11_text_46 rfl ?_
            refine j_callV (g := 1) (ci := 11) o (c_X11_keepForm l P gf M5 N _ h) dX11_text_47 jc_X11_133 (jNm_2 jn_X11_keepForm rfl) ⟨⟨Nat.le_of_ble_eq_true rfl, Nat.le_of_ble_eq_true rfl⟩, Nat.le_of_ble_eq_true rfl, Nat.le_of_ble_eq_true rfl⟩ rfl (fun _ => rfl) (Nat.le_of_ble_eq_true rfl) rfl (fun v9 P10 M11 N12 hq13 => ?_)
            obtain ⟨r15, rfl, hx14, h⟩ := hq13
            have hp16 : P10.2.1 1 = true := (hx14.1 _ hp1).1
            refine j_conv (lo' := [(0, .ref (P10.1 1)), (1, .int a1)]) (st' := [.int r15]) (by rw [(hx14.1 1 hp1).2] <;> rfl) rfl ?_
            have hw17 : Pext P P10 := hx14
            refine j_istore_n o [(2, .int r15), (0, .ref (P10.1 1)), (1, .int a1)] dX11_text_50 (by decide) rfl ?_
            refine j_iload_n o dX11_text_51 rfl ?_
            refine j_iconst o (v := (-1)) dX11_text_52 rfl ?_
            refine j_icmp_eq o (tgt := 64) dX11_text_53 (by decide) (fun c18 => ?_) (fun c18 => ?_)
            · replace h := h.1 c18
              refine j_iload_n o dX11_text_64 rfl ?_
              refine j_widen (k' := rm_X11_text.cells) (n' := rm_X11_text.slots) (Nat.le_of_ble_eq_true rfl) (Nat.le_of_ble_eq_true rfl) ?_
              rw [hE]
              exact j_iret o dX11_text_65 ⟨_, rfl, hw17, h⟩
            · replace h := h.2 c18
              refine j_aload_n o dX11_text_56 rfl ?_
              refine j_getf o (g := 1) (slot := 1) (ci := 11) (v := .ref (P10.1 3)) rfl jin_X11 (by decide) rfl jf_X11_30 (fun _ => rfl) rfl dX11_text_57 ?_
              refine j_iconst o (v := 0) dX11_text_60 rfl ?_
              refine j_putf o (M1 := upM M11 3 1 0) (N1 := N12) (g := 3) (slot := 1) (ci := 10) (ty := .int) rfl jin_X10 tyX10_ok nmX10 (by decide) rfl rfl jf_X11_117 (by decide +kernel) rfl rfl (Nat.le_of_ble_eq_true rfl) (fun _ => rfl) (fun _ => rfl) (fun _ hj => upM_ne _ _ _ hj) (fun _ _ => rfl) dX11_text_61 ?_
              refine j_iload_n o dX11_text_64 rfl ?_
              refine j_widen (k' := rm_X11_text.cells) (n' := rm_X11_text.slots) (Nat.le_of_ble_eq_true rfl) (Nat.le_of_ble_eq_true rfl) ?_
              rw [hE]
              exact j_iret o dX11_text_65 ⟨_, rfl, hw17, h⟩
          · replace h := h.2 c9
            refine j_aload_n o dX11_text_39 rfl ?_
            refine j_callVi (g := 1) (ci := 11) o (c_X11_keepQuestion l P M5 N _ h) dX11_text_40 jc_X11_130 jn_X11_keepQuestion rfl rfl rfl (fun _ => rfl) rfl rfl (fun r19 M20 Nz21 h => ?_)
            obtain ⟨rfl, h⟩ := h
            refine j_goto o (tgt := 50) dX11_text_43 (by decide) ?_
            refine j_istore_n o [(2, .int r19), (0, .ref (P.1 1)), (1, .int a1)] dX11_text_50 (by decide) rfl ?_
            refine j_iload_n o dX11_text_51 rfl ?_
            refine j_iconst o (v := (-1)) dX11_text_52 rfl ?_
            refine j_icmp_eq o (tgt := 64) dX11_text_53 (by decide) (fun c22 => ?_) (fun c22 => ?_)
            · replace h := h.1 c22
              refine j_iload_n o dX11_text_64 rfl ?_
              refine j_widen (k' := rm_X11_text.cells) (n' := rm_X11_text.slots) (Nat.le_of_ble_eq_true rfl) (Nat.le_of_ble_eq_true rfl) ?_
              rw [hE]
              exact j_iret o dX11_text_65 ⟨_, rfl, (Pext.refl _), h⟩
            · replace h := h.2 c22
              refine j_aload_n o dX11_text_56 rfl ?_
              refine j_getf o (g := 1) (slot := 1) (ci := 11) (v := .ref (P.1 3)) rfl jin_X11 (by decide) rfl jf_X11_30 (fun _ => rfl) rfl dX11_text_57 ?_
              refine j_iconst o (v := 0) dX11_text_60 rfl ?_
              refine j_putf o (M1 := upM M20 3 1 0) (N1 := N) (g := 3) (slot := 1) (ci := 10) (ty := .int) rfl jin_X10 tyX10_ok nmX10 (by decide) rfl rfl jf_X11_117 (by decide +kernel) rfl rfl (Nat.le_of_ble_eq_true rfl) (fun _ => rfl) (fun _ => rfl) (fun _ hj => upM_ne _ _ _ hj) (fun _ _ => rfl) dX11_text_61 ?_
              refine j_iload_n o dX11_text_64 rfl ?_
              refine j_widen (k' := rm_X11_text.cells) (n' := rm_X11_text.slots) (Nat.le_of_ble_eq_true rfl) (Nat.le_of_ble_eq_true rfl) ?_
              rw [hE]
              exact j_iret o dX11_text_65 ⟨_, rfl, (Pext.refl _), h⟩
        · replace h := h.2 c8
          refine j_aload_n o dX11_text_27 rfl ?_
          refine j_callV (g := 1) (ci := 11) o (c_X11_keepLaw l P gl M5 N _ h) dX11_text_28 jc_X11_126 (jNm_2 jn_X11_keepLaw rfl) ⟨⟨Nat.le_of_ble_eq_true rfl, Nat.le_of_ble_eq_true rfl⟩, Nat.le_of_ble_eq_true rfl, Nat.le_of_ble_eq_true rfl⟩ rfl (fun _ => rfl) (Nat.le_of_ble_eq_true rfl) rfl (fun v9 P23 M24 N25 hq26 => ?_)
          obtain ⟨r28, rfl, hx27, h⟩ := hq26
          have hp29 : P23.2.1 1 = true := (hx27.1 _ hp1).1
          refine j_conv (lo' := [(0, .ref (P23.1 1)), (1, .int a1)]) (st' := [.int r28]) (by rw [(hx27.1 1 hp1).2] <;> rfl) rfl ?_
          have hw30 : Pext P P23 := hx27
          refine j_goto o (tgt := 50) dX11_text_31 (by decide) ?_
          refine j_istore_n o [(2, .int r28), (0, .ref (P23.1 1)), (1, .int a1)] dX11_text_50 (by decide) rfl ?_
          refine j_iload_n o dX11_text_51 rfl ?_
          refine j_iconst o (v := (-1)) dX11_text_52 rfl ?_
          refine j_icmp_eq o (tgt := 64) dX11_text_53 (by decide) (fun c31 => ?_) (fun c31 => ?_)
          · replace h := h.1 c31
            refine j_iload_n o dX11_text_64 rfl ?_
            refine j_widen (k' := rm_X11_text.cells) (n' := rm_X11_text.slots) (Nat.le_of_ble_eq_true rfl) (Nat.le_of_ble_eq_true rfl) ?_
            rw [hE]
            exact j_iret o dX11_text_65 ⟨_, rfl, hw30, h⟩
          · replace h := h.2 c31
            refine j_aload_n o dX11_text_56 rfl ?_
            refine j_getf o (g := 1) (slot := 1) (ci := 11) (v := .ref (P23.1 3)) rfl jin_X11 (by decide) rfl jf_X11_30 (fun _ => rfl) rfl dX11_text_57 ?_
            refine j_iconst o (v := 0) dX11_text_60 rfl ?_
            refine j_putf o (M1 := upM M24 3 1 0) (N1 := N25) (g := 3) (slot := 1) (ci := 10) (ty := .int) rfl jin_X10 tyX10_ok nmX10 (by decide) rfl rfl jf_X11_117 (by decide +kernel) rfl rfl (Nat.le_of_ble_eq_true rfl) (fun _ => rfl) (fun _ => rfl) (fun _ hj => upM_ne _ _ _ hj) (fun _ _ => rfl) dX11_text_61 ?_
            refine j_iload_n o dX11_text_64 rfl ?_
            refine j_widen (k' := rm_X11_text.cells) (n' := rm_X11_text.slots) (Nat.le_of_ble_eq_true rfl) (Nat.le_of_ble_eq_true rfl) ?_
            rw [hE]
            exact j_iret o dX11_text_65 ⟨_, rfl, hw30, h⟩
      · replace h := h.2 c7
        refine j_iconst o (v := (-1)) dX11_text_21 rfl ?_
        refine j_widen (k' := rm_X11_text.cells) (n' := rm_X11_text.slots) (Nat.le_of_ble_eq_true rfl) (Nat.le_of_ble_eq_true rfl) ?_
        rw [hE]
        exact j_iret o dX11_text_22 ⟨_, rfl, (Pext.refl _), h⟩

abbrev rm_X11_keepLawS : Room := { frames := 4, cells := 0, slots := 0, locals := 92 }
def w_X11_keepLawS (P : jP) (gl : Nat) (M : jM) (N : jN) (Q : Int32 → jP → jM → jN → Prop) : Prop :=
  P.2.1 1 = true ∧
  gl < 200 ∧
  ((M 1 10) < 6 → (
   False
  )) ∧ (¬ (M 1 10) < 6 → (
   Q (-1) P M N
  ))
set_option maxRecDepth 20000 in
theorem c_X11_keepLawS (l : Launch) (P : jP) (gl : Nat) (M : jM) (N : jN) (Q : Int32 → jP → jM → jN → Prop) (h : w_X11_keepLawS P gl M N Q) : jC l yX11_keepLaw cX11_keepLaw 3 (some .int) rm_X11_keepLawS LC [.ref (P.1 1)] P M N (jqiP P Q) := by
  refine jC_of (by decide +kernel) [(0, .ref (P.1 1))] (Nat.le_of_ble_eq_true rfl) rfl (fun X o => ?_)
  obtain ⟨E, hE⟩ : ∃ E, E = jE X rm_X11_keepLawS (jqiP P Q) := ⟨_, rfl⟩
  rw [← hE]
  unfold w_X11_keepLawS at h
  obtain ⟨hp1, h⟩ := h
  obtain ⟨hg_gl, h⟩ := h
  refine j_aload_n o dX11_keepLaw_0 rfl ?_
  refine j_getf o (g := 1) (slot := 10) (ci := 11) (v := .int (M 1 10)) rfl jin_X11 (by decide) rfl jf_X11_136 (fun _ => rfl) rfl dX11_keepLaw_1 ?_
  refine j_bipush o (v := 6) dX11_keepLaw_4 rfl ?_
  refine j_icmp_lt o (tgt := 11) dX11_keepLaw_6 (by decide) (fun c2 => ?_) (fun c2 => ?_)
  · replace h := h.1 c2
    exact h.elim
  · replace h := h.2 c2
    refine j_iconst o (v := (-1)) dX11_keepLaw_9 rfl ?_
    refine j_widen (k' := rm_X11_keepLawS.cells) (n' := rm_X11_keepLawS.slots) (Nat.le_of_ble_eq_true rfl) (Nat.le_of_ble_eq_true rfl) ?_
    rw [hE]
    exact j_iret o dX11_keepLaw_10 ⟨_, rfl, (Pext.refl _), h⟩

abbrev rm_X11_textS : Room := { frames := 47, cells := 4, slots := 40, locals := 1072 }
def w_X11_textS (P : jP) (a1 : Int32) (gl : Nat) (gf : Nat) (M : jM) (N : jN) (Q : Int32 → jP → jM → jN → Prop) : Prop :=
  P.2.1 1 = true ∧
  gl < 200 ∧
  gf < 200 ∧
  (a1 < 0 → (
   Q (-1) P M N
  )) ∧ (¬ a1 < 0 → (
   (2 < a1 → (
    Q (-1) P M N
   )) ∧ (¬ 2 < a1 → (
    w_X7_readAs P a1 M (fun r4 M5 =>
    (r4 = (-1) → (
     (¬ a1 = 0 → (
      (¬ a1 = 1 → (
       w_X11_keepForm P gf M5 N (fun r15 P10 M11 N12 =>
       (r15 = (-1) → (
        Q r15 P10 M11 N12
       )) ∧ (¬ r15 = (-1) → (
        Q r15 P10 (upM M11 3 1 0) N12
       )))
      )) ∧ (a1 = 1 → (
       w_X11_keepQuestion P M5 (fun r19 M20 =>
       (r19 = (-1) → (
        Q r19 P M20 N
       )) ∧ (¬ r19 = (-1) → (
        Q r19 P (upM M20 3 1 0) N
       )))
      ))
     )) ∧ (a1 = 0 → (
      w_X11_keepLawS P gl M5 N (fun r28 P23 M24 N25 =>
      (r28 = (-1) → (
       Q r28 P23 M24 N25
      )) ∧ (¬ r28 = (-1) → (
       Q r28 P23 (upM M24 3 1 0) N25
      )))
     ))
    )) ∧ (¬ r4 = (-1) → (
     Q (-1) P M5 N
    )))
   ))
  ))
set_option maxRecDepth 20000 in
theorem c_X11_textS (l : Launch) (P : jP) (a1 : Int32) (gl : Nat) (gf : Nat) (M : jM) (N : jN) (Q : Int32 → jP → jM → jN → Prop) (h : w_X11_textS P a1 gl gf M N Q) : jC l yX11_text cX11_text 3 (some .int) rm_X11_textS LC [.ref (P.1 1), .int a1] P M N (jqiP P Q) := by
  refine jC_of (by decide +kernel) [(0, .ref (P.1 1)), (1, .int a1)] (Nat.le_of_ble_eq_true rfl) rfl (fun X o => ?_)
  obtain ⟨E, hE⟩ : ∃ E, E = jE X rm_X11_textS (jqiP P Q) := ⟨_, rfl⟩
  rw [← hE]
  unfold w_X11_textS at h
  obtain ⟨hp1, h⟩ := h
  obtain ⟨hg_gl, h⟩ := h
  obtain ⟨hg_gf, h⟩ := h
  refine j_iload_n o dX11_text_0 rfl ?_
  refine j_if_lt o (tgt := 21) dX11_text_1 (by decide) (fun c2 => ?_) (fun c2 => ?_)
  · replace h := h.1 c2
    refine j_iconst o (v := (-1)) dX11_text_21 rfl ?_
    refine j_widen (k' := rm_X11_textS.cells) (n' := rm_X11_textS.slots) (Nat.le_of_ble_eq_true rfl) (Nat.le_of_ble_eq_true rfl) ?_
    rw [hE]
    exact j_iret o dX11_text_22 ⟨_, rfl, (Pext.refl _), h⟩
  · replace h := h.2 c2
    refine j_iload_n o dX11_text_4 rfl ?_
    refine j_iconst o (v := 2) dX11_text_5 rfl ?_
    refine j_icmp_gt o (tgt := 21) dX11_text_6 (by decide) (fun c3 => ?_) (fun c3 => ?_)
    · replace h := h.1 c3
      refine j_iconst o (v := (-1)) dX11_text_21 rfl ?_
      refine j_widen (k' := rm_X11_textS.cells) (n' := rm_X11_textS.slots) (Nat.le_of_ble_eq_true rfl) (Nat.le_of_ble_eq_true rfl) ?_
      rw [hE]
      exact j_iret o dX11_text_22 ⟨_, rfl, (Pext.refl _), h⟩
    · replace h := h.2 c3
      refine j_aload_n o dX11_text_9 rfl ?_
      refine j_getf o (g := 1) (slot := 2) (ci := 11) (v := .ref (P.1 4)) rfl jin_X11 (by decide) rfl jf_X11_39 (fun _ => rfl) rfl dX11_text_10 ?_
      refine j_iload_n o dX11_text_13 rfl ?_
      refine j_callVi (g := 4) (ci := 7) o (c_X7_readAs l P a1 M N _ h) dX11_text_14 jc_X11_123 jn_X7_readAs rfl rfl rfl (fun _ => rfl) rfl rfl (fun r4 M5 Nz6 h => ?_)
      obtain ⟨rfl, h⟩ := h
      refine j_iconst o (v := (-1)) dX11_text_17 rfl ?_
      refine j_icmp_eq o (tgt := 23) dX11_text_18 (by decide) (fun c7 => ?_) (fun c7 => ?_)
      · replace h := h.1 c7
        refine j_iload_n o dX11_text_23 rfl ?_
        refine j_if_ne o (tgt := 34) dX11_text_24 (by decide) (fun c8 => ?_) (fun c8 => ?_)
        · replace h := h.1 c8
          refine j_iload_n o dX11_text_34 rfl ?_
          refine j_iconst o (v := 1) dX11_text_35 rfl ?_
          refine j_icmp_ne o (tgt := 46) dX11_text_36 (by decide) (fun c9 => ?_) (fun c9 => ?_)
          · replace h := h.1 c9
            refine j_aload_n o dX11_text_46 rfl ?_
            refine j_callV (g := 1) (ci := 11) o (c_X11_keepForm l P gf M5 N _ h) dX11_text_47 jc_X11_133 (jNm_2 jn_X11_keepForm rfl) ⟨⟨Nat.le_of_ble_eq_true rfl, Nat.le_of_ble_eq_true rfl⟩, Nat.le_of_ble_eq_true rfl, Nat.le_of_ble_eq_true rfl⟩ rfl (fun _ => rfl) (Nat.le_of_ble_eq_true rfl) rfl (fun v9 P10 M11 N12 hq13 => ?_)
            obtain ⟨r15, rfl, hx14, h⟩ := hq13
            have hp16 : P10.2.1 1 = true := (hx14.1 _ hp1).1
            refine j_conv (lo' := [(0, .ref (P10.1 1)), (1, .int a1)]) (st' := [.int r15]) (by rw [(hx14.1 1 hp1).2] <;> rfl) rfl ?_
            have hw17 : Pext P P10 := hx14
            refine j_istore_n o [(2, .int r15), (0, .ref (P10.1 1)), (1, .int a1)] dX11_text_50 (by decide) rfl ?_
            refine j_iload_n o dX11_text_51 rfl ?_
            refine j_iconst o (v := (-1)) dX11_text_52 rfl ?_
            refine j_icmp_eq o (tgt := 64) dX11_text_53 (by decide) (fun c18 => ?_) (fun c18 => ?_)
            · replace h := h.1 c18
              refine j_iload_n o dX11_text_64 rfl ?_
              refine j_widen (k' := rm_X11_textS.cells) (n' := rm_X11_textS.slots) (Nat.le_of_ble_eq_true rfl) (Nat.le_of_ble_eq_true rfl) ?_
              rw [hE]
              exact j_iret o dX11_text_65 ⟨_, rfl, hw17, h⟩
            · replace h := h.2 c18
              refine j_aload_n o dX11_text_56 rfl ?_
              refine j_getf o (g := 1) (slot := 1) (ci := 11) (v := .ref (P10.1 3)) rfl jin_X11 (by decide) rfl jf_X11_30 (fun _ => rfl) rfl dX11_text_57 ?_
              refine j_iconst o (v := 0) dX11_text_60 rfl ?_
              refine j_putf o (M1 := upM M11 3 1 0) (N1 := N12) (g := 3) (slot := 1) (ci := 10) (ty := .int) rfl jin_X10 tyX10_ok nmX10 (by decide) rfl rfl jf_X11_117 (by decide +kernel) rfl rfl (Nat.le_of_ble_eq_true rfl) (fun _ => rfl) (fun _ => rfl) (fun _ hj => upM_ne _ _ _ hj) (fun _ _ => rfl) dX11_text_61 ?_
              refine j_iload_n o dX11_text_64 rfl ?_
              refine j_widen (k' := rm_X11_textS.cells) (n' := rm_X11_textS.slots) (Nat.le_of_ble_eq_true rfl) (Nat.le_of_ble_eq_true rfl) ?_
              rw [hE]
              exact j_iret o dX11_text_65 ⟨_, rfl, hw17, h⟩
          · replace h := h.2 c9
            refine j_aload_n o dX11_text_39 rfl ?_
            refine j_callVi (g := 1) (ci := 11) o (c_X11_keepQuestion l P M5 N _ h) dX11_text_40 jc_X11_130 jn_X11_keepQuestion rfl rfl rfl (fun _ => rfl) rfl rfl (fun r19 M20 Nz21 h => ?_)
            obtain ⟨rfl, h⟩ := h
            refine j_goto o (tgt := 50) dX11_text_43 (by decide) ?_
            refine j_istore_n o [(2, .int r19), (0, .ref (P.1 1)), (1, .int a1)] dX11_text_50 (by decide) rfl ?_
            refine j_iload_n o dX11_text_51 rfl ?_
            refine j_iconst o (v := (-1)) dX11_text_52 rfl ?_
            refine j_icmp_eq o (tgt := 64) dX11_text_53 (by decide) (fun c22 => ?_) (fun c22 => ?_)
            · replace h := h.1 c22
              refine j_iload_n o dX11_text_64 rfl ?_
              refine j_widen (k' := rm_X11_textS.cells) (n' := rm_X11_textS.slots) (Nat.le_of_ble_eq_true rfl) (Nat.le_of_ble_eq_true rfl) ?_
              rw [hE]
              exact j_iret o dX11_text_65 ⟨_, rfl, (Pext.refl _), h⟩
            · replace h := h.2 c22
              refine j_aload_n o dX11_text_56 rfl ?_
              refine j_getf o (g := 1) (slot := 1) (ci := 11) (v := .ref (P.1 3)) rfl jin_X11 (by decide) rfl jf_X11_30 (fun _ => rfl) rfl dX11_text_57 ?_
              refine j_iconst o (v := 0) dX11_text_60 rfl ?_
              refine j_putf o (M1 := upM M20 3 1 0) (N1 := N) (g := 3) (slot := 1) (ci := 10) (ty := .int) rfl jin_X10 tyX10_ok nmX10 (by decide) rfl rfl jf_X11_117 (by decide +kernel) rfl rfl (Nat.le_of_ble_eq_true rfl) (fun _ => rfl) (fun _ => rfl) (fun _ hj => upM_ne _ _ _ hj) (fun _ _ => rfl) dX11_text_61 ?_
              refine j_iload_n o dX11_text_64 rfl ?_
              refine j_widen (k' := rm_X11_textS.cells) (n' := rm_X11_textS.slots) (Nat.le_of_ble_eq_true rfl) (Nat.le_of_ble_eq_true rfl) ?_
              rw [hE]
              exact j_iret o dX11_text_65 ⟨_, rfl, (Pext.refl _), h⟩
        · replace h := h.2 c8
          refine j_aload_n o dX11_text_27 rfl ?_
          refine j_callV (g := 1) (ci := 11) o (c_X11_keepLawS l P gl M5 N _ h) dX11_text_28 jc_X11_126 (jNm_2 jn_X11_keepLaw rfl) ⟨⟨Nat.le_of_ble_eq_true rfl, Nat.le_of_ble_eq_true rfl⟩, Nat.le_of_ble_eq_true rfl, Nat.le_of_ble_eq_true rfl⟩ rfl (fun _ => rfl) (Nat.le_of_ble_eq_true rfl) rfl (fun v9 P23 M24 N25 hq26 => ?_)
          obtain ⟨r28, rfl, hx27, h⟩ := hq26
          have hp29 : P23.2.1 1 = true := (hx27.1 _ hp1).1
          refine j_conv (lo' := [(0, .ref (P23.1 1)), (1, .int a1)]) (st' := [.int r28]) (by rw [(hx27.1 1 hp1).2] <;> rfl) rfl ?_
          have hw30 : Pext P P23 := hx27
          refine j_goto o (tgt := 50) dX11_text_31 (by decide) ?_
          refine j_istore_n o [(2, .int r28), (0, .ref (P23.1 1)), (1, .int a1)] dX11_text_50 (by decide) rfl ?_
          refine j_iload_n o dX11_text_51 rfl ?_
          refine j_iconst o (v := (-1)) dX11_text_52 rfl ?_
          refine j_icmp_eq o (tgt := 64) dX11_text_53 (by decide) (fun c31 => ?_) (fun c31 => ?_)
          · replace h := h.1 c31
            refine j_iload_n o dX11_text_64 rfl ?_
            refine j_widen (k' := rm_X11_textS.cells) (n' := rm_X11_textS.slots) (Nat.le_of_ble_eq_true rfl) (Nat.le_of_ble_eq_true rfl) ?_
            rw [hE]
            exact j_iret o dX11_text_65 ⟨_, rfl, hw30, h⟩
          · replace h := h.2 c31
            refine j_aload_n o dX11_text_56 rfl ?_
            refine j_getf o (g := 1) (slot := 1) (ci := 11) (v := .ref (P23.1 3)) rfl jin_X11 (by decide) rfl jf_X11_30 (fun _ => rfl) rfl dX11_text_57 ?_
            refine j_iconst o (v := 0) dX11_text_60 rfl ?_
            refine j_putf o (M1 := upM M24 3 1 0) (N1 := N25) (g := 3) (slot := 1) (ci := 10) (ty := .int) rfl jin_X10 tyX10_ok nmX10 (by decide) rfl rfl jf_X11_117 (by decide +kernel) rfl rfl (Nat.le_of_ble_eq_true rfl) (fun _ => rfl) (fun _ => rfl) (fun _ hj => upM_ne _ _ _ hj) (fun _ _ => rfl) dX11_text_61 ?_
            refine j_iload_n o dX11_text_64 rfl ?_
            refine j_widen (k' := rm_X11_textS.cells) (n' := rm_X11_textS.slots) (Nat.le_of_ble_eq_true rfl) (Nat.le_of_ble_eq_true rfl) ?_
            rw [hE]
            exact j_iret o dX11_text_65 ⟨_, rfl, hw30, h⟩
      · replace h := h.2 c7
        refine j_iconst o (v := (-1)) dX11_text_21 rfl ?_
        refine j_widen (k' := rm_X11_textS.cells) (n' := rm_X11_textS.slots) (Nat.le_of_ble_eq_true rfl) (Nat.le_of_ble_eq_true rfl) ?_
        rw [hE]
        exact j_iret o dX11_text_22 ⟨_, rfl, (Pext.refl _), h⟩
