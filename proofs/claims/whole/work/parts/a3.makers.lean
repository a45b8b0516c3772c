/-! THE MAKERS -/
def jqp (P : jP) (Q : jP → jM → jN → Prop) : Option Value → jP → jM → jN → Prop := fun v P' M' N' => v = none ∧ Pext P P' ∧ Q P' M' N'
theorem jNm_2 {y2 : MethodName} {n : Nat} {as : List Value} (h : jNm y2 n) (hn : as.length = n) : jN2 y2 as := by
  subst hn
  exact h
abbrev rm_X10_init : Room := { frames := 1, cells := 1, slots := 160, locals := 24 }
def w_X10_init (P : jP)  (M : jM) (N : jN) (Q : jP → jM → jN → Prop) : Prop :=
  P.2.1 3 = true ∧
  rfree kob LC P M 17 ∧
  ∀ b3 : Nat,
  ∀ P4 : jP, P4 = pnew P 17 b3 →
  ∀ M10 : jM, M10 = upM (upM (zM M 17) 3 0 1) 3 3 (-1) →
  Q P4 M10 (zN N 17)
set_option maxRecDepth 20000 in
theorem c_X10_init (l : Launch) (P : jP)  (M : jM) (N : jN) (Q : jP → jM → jN → Prop) (h : w_X10_init P M N Q) : jC l yX10_init cX10_init 1 none rm_X10_init LK [.ref (P.1 3)] P M N (jqp P Q) := by
  refine jC_of (by decide +kernel) [(0, .ref (P.1 3))] (Nat.le_of_ble_eq_true rfl) rfl (fun X o => ?_)
  obtain ⟨E, hE⟩ : ∃ E, E = jE X rm_X10_init (jqp P Q) := ⟨_, rfl⟩
  rw [← hE]
  unfold w_X10_init at h
  obtain ⟨hp1, h⟩ := h
  refine j_aload_n o dX10_init_0 rfl ?_
  refine j_objInit o io_X10_3 ⟨Nat.le_of_ble_eq_true rfl, Nat.le_of_ble_eq_true rfl⟩ dX10_init_1 ?_
  refine j_aload_n o dX10_init_4 rfl ?_
  refine j_sipush o (v := 160) dX10_init_5 rfl ?_
  obtain ⟨hf2, h⟩ := h
  refine r_newarr (g := 17) (ti := 0) (nn := 160) (B := 160) (atype := .int) (ty := .int) (a0 := (160, .inl (fun _ => 0))) o rfl (fun _ => rfl) (fun _ _ h => h) (fun _ => rfl) (iz_int _ List.mem_cons_self) rfl (Nat.le_refl _) (Nat.le_of_ble_eq_true rfl) (Nat.le_of_ble_eq_true rfl) hf2.hold (fun a tA e he => rnew_ar rfl rfl he) ⟨Nat.le_of_ble_eq_true rfl, Nat.le_of_ble_eq_true rfl⟩ dX10_init_8 (fun b3 => ?_)
  obtain ⟨P4, hP5⟩ : ∃ P9, P9 = pnew P 17 b3 := ⟨_, rfl⟩
  rw [← hP5]
  replace h := h b3 P4 hP5
  have hx6 : Pext P P4 := (by rw [hP5]; exact Pext.new hf2.1)
  have hp7 : P4.2.1 3 = true := (hx6.1 _ hp1).1
  have hp8 : P4.2.1 17 = true := (by rw [hP5]; exact (pnew_at _ _ _).1)
  have hp8a : P4.1 17 = b3 := (show P4.1 17 = b3 by rw [hP5]; exact (pnew_at _ _ _).2)
  refine j_conv (lo' := [(0, .ref (P4.1 3))]) (st' := [.ref (P4.1 17), .ref (P4.1 3)]) (by rw [(hx6.1 3 hp1).2] <;> rfl) (by rw [(hx6.1 3 hp1).2, hp8a] <;> rfl) ?_
  have hw9 : Pext P P4 := hx6
  refine r_putF (g := 3) (slot := 0) (x := 1) (ci := 10) (ty := .array .int) o hp7 rfl rfl (rfv_r (by decide)) rfl jin_X10 tyX10_ok nmX10 (by decide) rfl rfl rfl rfl jf_X10_9 (by decide +kernel) rfl rfl dX10_init_10 ?_
  refine j_aload_n o dX10_init_13 rfl ?_
  refine j_iconst o (v := (-1)) dX10_init_14 rfl ?_
  refine r_put (g := 3) (slot := 3) (x := (-1)) (ci := 10) (ty := .int) o hp7 rfl rfl rfv_i rfl jin_X10 tyX10_ok nmX10 (by decide) rfl rfl jf_X10_15 (by decide +kernel) rfl rfl dX10_init_15 ?_
  refine j_nameM (fun M10 hM10 => ?_)
  replace h := h M10 hM10
  rw [hE]
  exact j_vret o dX10_init_18 ⟨rfl, hw9, h⟩

abbrev rm_X8_init : Room := { frames := 1, cells := 2, slots := 40, locals := 24 }
def w_X8_init (P : jP)  (M : jM) (N : jN) (Q : jP → jM → jN → Prop) : Prop :=
  P.2.1 10 = true ∧
  rfree kob LC P M 43 ∧
  ∀ b3 : Nat,
  ∀ P4 : jP, P4 = pnew P 43 b3 →
  rfree kob LC P4 (upM (zM M 43) 10 1 1) 44 ∧
  ∀ b11 : Nat,
  ∀ P12 : jP, P12 = pnew P4 44 b11 →
  ∀ M19 : jM, M19 = zM (upM (zM M 43) 10 1 1) 44 →
  Q P12 (upM M19 10 2 1) (zN (zN N 43) 44)
set_option maxRecDepth 20000 in
theorem c_X8_init (l : Launch) (P : jP)  (M : jM) (N : jN) (Q : jP → jM → jN → Prop) (h : w_X8_init P M N Q) : jC l yX8_init cX8_init 1 none rm_X8_init LK [.ref (P.1 10)] P M N (jqp P Q) := by
  refine jC_of (by decide +kernel) [(0, .ref (P.1 10))] (Nat.le_of_ble_eq_true rfl) rfl (fun X o => ?_)
  obtain ⟨E, hE⟩ : ∃ E, E = jE X rm_X8_init (jqp P Q) := ⟨_, rfl⟩
  rw [← hE]
  unfold w_X8_init at h
  obtain ⟨hp1, h⟩ := h
  refine j_aload_n o dX8_init_0 rfl ?_
  refine j_objInit o io_X8_3 ⟨Nat.le_of_ble_eq_true rfl, Nat.le_of_ble_eq_true rfl⟩ dX8_init_1 ?_
  refine j_aload_n o dX8_init_4 rfl ?_
  refine j_bipush o (v := 20) dX8_init_5 rfl ?_
  obtain ⟨hf2, h⟩ := h
  refine r_newarr (g := 43) (ti := 0) (nn := 20) (B := 20) (atype := .int) (ty := .int) (a0 := (20, .inl (fun _ => 0))) o rfl (fun _ => rfl) (fun _ _ h => h) (fun _ => rfl) (iz_int _ List.mem_cons_self) rfl (Nat.le_refl _) (Nat.le_of_ble_eq_true rfl) (Nat.le_of_ble_eq_true rfl) hf2.hold (fun a tA e he => rnew_ar rfl rfl he) ⟨Nat.le_of_ble_eq_true rfl, Nat.le_of_ble_eq_true rfl⟩ dX8_init_7 (fun b3 => ?_)
  obtain ⟨P4, hP5⟩ : ∃ P9, P9 = pnew P 43 b3 := ⟨_, rfl⟩
  rw [← hP5]
  replace h := h b3 P4 hP5
  have hx6 : Pext P P4 := (by rw [hP5]; exact Pext.new hf2.1)
  have hp7 : P4.2.1 10 = true := (hx6.1 _ hp1).1
  have hp8 : P4.2.1 43 = true := (by rw [hP5]; exact (pnew_at _ _ _).1)
  have hp8a : P4.1 43 = b3 := (show P4.1 43 = b3 by rw [hP5]; exact (pnew_at _ _ _).2)
  refine j_conv (lo' := [(0, .ref (P4.1 10))]) (st' := [.ref (P4.1 43), .ref (P4.1 10)]) (by rw [(hx6.1 10 hp1).2] <;> rfl) (by rw [(hx6.1 10 hp1).2, hp8a] <;> rfl) ?_
  have hw9 : Pext P P4 := hx6
  refine r_putF (g := 10) (slot := 1) (x := 1) (ci := 8) (ty := .array .int) o hp7 rfl rfl (rfv_r (by decide)) rfl jin_X8 tyX8_ok nmX8 (by decide) rfl rfl rfl rfl jf_X8_9 (by decide +kernel) rfl rfl dX8_init_9 ?_
  refine j_aload_n o dX8_init_12 rfl ?_
  refine j_bipush o (v := 20) dX8_init_13 rfl ?_
  obtain ⟨hf10, h⟩ := h
  refine r_newarr (g := 44) (ti := 0) (nn := 20) (B := 20) (atype := .int) (ty := .int) (a0 := (20, .inl (fun _ => 0))) o rfl (fun _ => rfl) (fun _ _ h => h) (fun _ => rfl) (iz_int _ List.mem_cons_self) rfl (Nat.le_refl _) (Nat.le_of_ble_eq_true rfl) (Nat.le_of_ble_eq_true rfl) hf10.hold (fun a tA e he => rnew_ar rfl rfl he) ⟨Nat.le_of_ble_eq_true rfl, Nat.le_of_ble_eq_true rfl⟩ dX8_init_15 (fun b11 => ?_)
  obtain ⟨P12, hP13⟩ : ∃ P9, P9 = pnew P4 44 b11 := ⟨_, rfl⟩
  rw [← hP13]
  replace h := h b11 P12 hP13
  have hx14 : Pext P4 P12 := (by rw [hP13]; exact Pext.new hf10.1)
  have hp15 : P12.2.1 10 = true := (hx14.1 _ hp7).1
  have hp16 : P12.2.1 43 = true := (hx14.1 _ hp8).1
  have hp17 : P12.2.1 44 = true := (by rw [hP13]; exact (pnew_at _ _ _).1)
  have hp17a : P12.1 44 = b11 := (show P12.1 44 = b11 by rw [hP13]; exact (pnew_at _ _ _).2)
  refine j_conv (lo' := [(0, .ref (P12.1 10))]) (st' := [.ref (P12.1 44), .ref (P12.1 10)]) (by rw [(hx14.1 10 hp7).2] <;> rfl) (by rw [(hx14.1 10 hp7).2, hp17a] <;> rfl) ?_
  have hw18 : Pext P P12 := hw9.trans hx14
  refine j_nameM (fun M19 hM19 => ?_)
  replace h := h M19 hM19
  refine r_putF (g := 10) (slot := 2) (x := 1) (ci := 8) (ty := .array .int) o hp15 rfl rfl (rfv_r (by decide)) rfl jin_X8 tyX8_ok nmX8 (by decide) rfl rfl rfl rfl jf_X8_15 (by decide +kernel) rfl rfl dX8_init_17 ?_
  rw [hE]
  exact j_vret o dX8_init_20 ⟨rfl, hw18, h⟩

abbrev rm_X6_init : Room := { frames := 1, cells := 5, slots := 1560, locals := 24 }
def w_X6_init (P : jP) (a1 : Int32) (M : jM) (N : jN) (Q : jP → jM → jN → Prop) : Prop :=
  P.2.1 9 = true ∧
  rfree kob LC P M 38 ∧
  ∀ b3 : Nat,
  ∀ P4 : jP, P4 = pnew P 38 b3 →
  rfree kob LC P4 (upM (zM M 38) 9 1 1) 40 ∧
  ∀ b11 : Nat,
  ∀ P12 : jP, P12 = pnew P4 40 b11 →
  ∀ M19 : jM, M19 = zM (upM (zM M 38) 9 1 1) 40 →
  rfree kob LC P12 (upM M19 9 3 1) 41 ∧
  ∀ b21 : Nat,
  ∀ P22 : jP, P22 = pnew P12 41 b21 →
  ∀ M30 : jM, M30 = upM (zM (upM M19 9 3 1) 41) 9 4 1 →
  rfree kob LC P22 M30 42 ∧
  ∀ b32 : Nat,
  ∀ P33 : jP, P33 = pnew P22 42 b32 →
  ∀ N42 : jN, N42 = zN (zN (zN (zN N 38) 40) 41) 42 →
  rfree kob LC P33 (upM (zM M30 42) 9 5 1) 39 ∧
  a1 = nI (P33.2.2 1) ∧
  P33.2.2 1 ≤ 512 ∧
  ∀ b46 : Nat,
  ∀ P47 : jP, P47 = pnew P33 39 b46 →
  ∀ M57 : jM, M57 = zM (upM (zM M30 42) 9 5 1) 39 →
  Q P47 (upM M57 9 2 1) (zN N42 39)
set_option maxRecDepth 20000 in
theorem c_X6_init (l : Launch) (P : jP) (a1 : Int32) (M : jM) (N : jN) (Q : jP → jM → jN → Prop) (h : w_X6_init P a1 M N Q) : jC l yX6_init cX6_init 2 none rm_X6_init LK [.ref (P.1 9), .int a1] P M N (jqp P Q) := by
  refine jC_of (by decide +kernel) [(0, .ref (P.1 9)), (1, .int a1)] (Nat.le_of_ble_eq_true rfl) rfl (fun X o => ?_)
  obtain ⟨E, hE⟩ : ∃ E, E = jE X rm_X6_init (jqp P Q) := ⟨_, rfl⟩
  rw [← hE]
  unfold w_X6_init at h
  obtain ⟨hp1, h⟩ := h
  refine j_aload_n o dX6_init_0 rfl ?_
  refine j_objInit o io_X6_3 ⟨Nat.le_of_ble_eq_true rfl, Nat.le_of_ble_eq_true rfl⟩ dX6_init_1 ?_
  refine j_aload_n o dX6_init_4 rfl ?_
  refine j_bipush o (v := 10) dX6_init_5 rfl ?_
  obtain ⟨hf2, h⟩ := h
  refine r_newarr (g := 38) (ti := 0) (nn := 10) (B := 10) (atype := .int) (ty := .int) (a0 := (10, .inl (fun _ => 0))) o rfl (fun _ => rfl) (fun _ _ h => h) (fun _ => rfl) (iz_int _ List.mem_cons_self) rfl (Nat.le_refl _) (Nat.le_of_ble_eq_true rfl) (Nat.le_of_ble_eq_true rfl) hf2.hold (fun a tA e he => rnew_ar rfl rfl he) ⟨Nat.le_of_ble_eq_true rfl, Nat.le_of_ble_eq_true rfl⟩ dX6_init_7 (fun b3 => ?_)
  obtain ⟨P4, hP5⟩ : ∃ P9, P9 = pnew P 38 b3 := ⟨_, rfl⟩
  rw [← hP5]
  replace h := h b3 P4 hP5
  have hx6 : Pext P P4 := (by rw [hP5]; exact Pext.new hf2.1)
  have hp7 : P4.2.1 9 = true := (hx6.1 _ hp1).1
  have hp8 : P4.2.1 38 = true := (by rw [hP5]; exact (pnew_at _ _ _).1)
  have hp8a : P4.1 38 = b3 := (show P4.1 38 = b3 by rw [hP5]; exact (pnew_at _ _ _).2)
  refine j_conv (lo' := [(0, .ref (P4.1 9)), (1, .int a1)]) (st' := [.ref (P4.1 38), .ref (P4.1 9)]) (by rw [(hx6.1 9 hp1).2] <;> rfl) (by rw [(hx6.1 9 hp1).2, hp8a] <;> rfl) ?_
  have hw9 : Pext P P4 := hx6
  refine r_putF (g := 9) (slot := 1) (x := 1) (ci := 6) (ty := .array .int) o hp7 rfl rfl (rfv_r (by decide)) rfl jin_X6 tyX6_ok nmX6 (by decide) rfl rfl rfl rfl jf_X6_9 (by decide +kernel) rfl rfl dX6_init_9 ?_
  refine j_aload_n o dX6_init_12 rfl ?_
  refine j_sipush o (v := 1024) dX6_init_13 rfl ?_
  obtain ⟨hf10, h⟩ := h
  refine r_newarr (g := 40) (ti := 0) (nn := 1024) (B := 1024) (atype := .int) (ty := .int) (a0 := (1024, .inl (fun _ => 0))) o rfl (fun _ => rfl) (fun _ _ h => h) (fun _ => rfl) (iz_int _ List.mem_cons_self) rfl (Nat.le_refl _) (Nat.le_of_ble_eq_true rfl) (Nat.le_of_ble_eq_true rfl) hf10.hold (fun a tA e he => rnew_ar rfl rfl he) ⟨Nat.le_of_ble_eq_true rfl, Nat.le_of_ble_eq_true rfl⟩ dX6_init_16 (fun b11 => ?_)
  obtain ⟨P12, hP13⟩ : ∃ P9, P9 = pnew P4 40 b11 := ⟨_, rfl⟩
  rw [← hP13]
  replace h := h b11 P12 hP13
  have hx14 : Pext P4 P12 := (by rw [hP13]; exact Pext.new hf10.1)
  have hp15 : P12.2.1 9 = true := (hx14.1 _ hp7).1
  have hp16 : P12.2.1 38 = true := (hx14.1 _ hp8).1
  have hp17 : P12.2.1 40 = true := (by rw [hP13]; exact (pnew_at _ _ _).1)
  have hp17a : P12.1 40 = b11 := (show P12.1 40 = b11 by rw [hP13]; exact (pnew_at _ _ _).2)
  refine j_conv (lo' := [(0, .ref (P12.1 9)), (1, .int a1)]) (st' := [.ref (P12.1 40), .ref (P12.1 9)]) (by rw [(hx14.1 9 hp7).2] <;> rfl) (by rw [(hx14.1 9 hp7).2, hp17a] <;> rfl) ?_
  have hw18 : Pext P P12 := hw9.trans hx14
  refine j_nameM (fun M19 hM19 => ?_)
  replace h := h M19 hM19
  refine r_putF (g := 9) (slot := 3) (x := 1) (ci := 6) (ty := .array .int) o hp15 rfl rfl (rfv_r (by decide)) rfl jin_X6 tyX6_ok nmX6 (by decide) rfl rfl rfl rfl jf_X6_15 (by decide +kernel) rfl rfl dX6_init_18 ?_
  refine j_aload_n o dX6_init_21 rfl ?_
  refine j_bipush o (v := 7) dX6_init_22 rfl ?_
  obtain ⟨hf20, h⟩ := h
  refine r_newarr (g := 41) (ti := 0) (nn := 7) (B := 7) (atype := .int) (ty := .int) (a0 := (7, .inl (fun _ => 0))) o rfl (fun _ => rfl) (fun _ _ h => h) (fun _ => rfl) (iz_int _ List.mem_cons_self) rfl (Nat.le_refl _) (Nat.le_of_ble_eq_true rfl) (Nat.le_of_ble_eq_true rfl) hf20.hold (fun a tA e he => rnew_ar rfl rfl he) ⟨Nat.le_of_ble_eq_true rfl, Nat.le_of_ble_eq_true rfl⟩ dX6_init_24 (fun b21 => ?_)
  obtain ⟨P22, hP23⟩ : ∃ P9, P9 = pnew P12 41 b21 := ⟨_, rfl⟩
  rw [← hP23]
  replace h := h b21 P22 hP23
  have hx24 : Pext P12 P22 := (by rw [hP23]; exact Pext.new hf20.1)
  have hp25 : P22.2.1 9 = true := (hx24.1 _ hp15).1
  have hp26 : P22.2.1 38 = true := (hx24.1 _ hp16).1
  have hp27 : P22.2.1 40 = true := (hx24.1 _ hp17).1
  have hp28 : P22.2.1 41 = true := (by rw [hP23]; exact (pnew_at _ _ _).1)
  have hp28a : P22.1 41 = b21 := (show P22.1 41 = b21 by rw [hP23]; exact (pnew_at _ _ _).2)
  refine j_conv (lo' := [(0, .ref (P22.1 9)), (1, .int a1)]) (st' := [.ref (P22.1 41), .ref (P22.1 9)]) (by rw [(hx24.1 9 hp15).2] <;> rfl) (by rw [(hx24.1 9 hp15).2, hp28a] <;> rfl) ?_
  have hw29 : Pext P P22 := hw18.trans hx24
  refine r_putF (g := 9) (slot := 4) (x := 1) (ci := 6) (ty := .array .int) o hp25 rfl rfl (rfv_r (by decide)) rfl jin_X6 tyX6_ok nmX6 (by decide) rfl rfl rfl rfl jf_X6_18 (by decide +kernel) rfl rfl dX6_init_26 ?_
  refine j_nameM (fun M30 hM30 => ?_)
  replace h := h M30 hM30
  refine j_aload_n o dX6_init_29 rfl ?_
  refine j_bipush o (v := 7) dX6_init_30 rfl ?_
  obtain ⟨hf31, h⟩ := h
  refine r_newarr (g := 42) (ti := 0) (nn := 7) (B := 7) (atype := .int) (ty := .int) (a0 := (7, .inl (fun _ => 0))) o rfl (fun _ => rfl) (fun _ _ h => h) (fun _ => rfl) (iz_int _ List.mem_cons_self) rfl (Nat.le_refl _) (Nat.le_of_ble_eq_true rfl) (Nat.le_of_ble_eq_true rfl) hf31.hold (fun a tA e he => rnew_ar rfl rfl he) ⟨Nat.le_of_ble_eq_true rfl, Nat.le_of_ble_eq_true rfl⟩ dX6_init_32 (fun b32 => ?_)
  obtain ⟨P33, hP34⟩ : ∃ P9, P9 = pnew P22 42 b32 := ⟨_, rfl⟩
  rw [← hP34]
  replace h := h b32 P33 hP34
  have hx35 : Pext P22 P33 := (by rw [hP34]; exact Pext.new hf31.1)
  have hp36 : P33.2.1 9 = true := (hx35.1 _ hp25).1
  have hp37 : P33.2.1 38 = true := (hx35.1 _ hp26).1
  have hp38 : P33.2.1 40 = true := (hx35.1 _ hp27).1
  have hp39 : P33.2.1 41 = true := (hx35.1 _ hp28).1
  have hp40 : P33.2.1 42 = true := (by rw [hP34]; exact (pnew_at _ _ _).1)
  have hp40a : P33.1 42 = b32 := (show P33.1 42 = b32 by rw [hP34]; exact (pnew_at _ _ _).2)
  refine j_conv (lo' := [(0, .ref (P33.1 9)), (1, .int a1)]) (st' := [.ref (P33.1 42), .ref (P33.1 9)]) (by rw [(hx35.1 9 hp25).2] <;> rfl) (by rw [(hx35.1 9 hp25).2, hp40a] <;> rfl) ?_
  have hw41 : Pext P P33 := hw29.trans hx35
  refine j_nameN (fun N42 hN42 => ?_)
  replace h := h N42 hN42
  refine r_putF (g := 9) (slot := 5) (x := 1) (ci := 6) (ty := .array .int) o hp36 rfl rfl (rfv_r (by decide)) rfl jin_X6 tyX6_ok nmX6 (by decide) rfl rfl rfl rfl jf_X6_21 (by decide +kernel) rfl rfl dX6_init_34 ?_
  refine j_aload_n o dX6_init_37 rfl ?_
  refine j_iload_n o dX6_init_38 rfl ?_
  obtain ⟨hf43, h⟩ := h
  obtain ⟨hn44, h⟩ := h
  obtain ⟨hb45, h⟩ := h
  refine r_newarr (g := 39) (ti := 0) (nn := P33.2.2 1) (B := 512) (atype := .int) (ty := .int) (a0 := (P33.2.2 1, .inl (fun _ => 0))) o rfl (fun _ => rfl) (fun _ _ h => h) (fun _ => rfl) (iz_int _ List.mem_cons_self) hn44 hb45 (Nat.le_of_ble_eq_true rfl) (Nat.le_of_ble_eq_true rfl) hf43.hold (fun a tA e he => rnew_ar rfl rfl he) ⟨Nat.le_of_ble_eq_true rfl, Nat.le_of_ble_eq_true rfl⟩ dX6_init_39 (fun b46 => ?_)
  obtain ⟨P47, hP48⟩ : ∃ P9, P9 = pnew P33 39 b46 := ⟨_, rfl⟩
  rw [← hP48]
  replace h := h b46 P47 hP48
  have hx49 : Pext P33 P47 := (by rw [hP48]; exact Pext.new hf43.1)
  have hp50 : P47.2.1 9 = true := (hx49.1 _ hp36).1
  have hp51 : P47.2.1 38 = true := (hx49.1 _ hp37).1
  have hp52 : P47.2.1 40 = true := (hx49.1 _ hp38).1
  have hp53 : P47.2.1 41 = true := (hx49.1 _ hp39).1
  have hp54 : P47.2.1 42 = true := (hx49.1 _ hp40).1
  have hp55 : P47.2.1 39 = true := (by rw [hP48]; exact (pnew_at _ _ _).1)
  have hp55a : P47.1 39 = b46 := (show P47.1 39 = b46 by rw [hP48]; exact (pnew_at _ _ _).2)
  refine j_conv (lo' := [(0, .ref (P47.1 9)), (1, .int a1)]) (st' := [.ref (P47.1 39), .ref (P47.1 9)]) (by rw [(hx49.1 9 hp36).2] <;> rfl) (by rw [(hx49.1 9 hp36).2, hp55a] <;> rfl) ?_
  have hw56 : Pext P P47 := hw41.trans hx49
  refine j_nameM (fun M57 hM57 => ?_)
  replace h := h M57 hM57
  refine r_putF (g := 9) (slot := 2) (x := 1) (ci := 6) (ty := .array .int) o hp50 rfl rfl (rfv_r (by decide)) rfl jin_X6 tyX6_ok nmX6 (by decide) rfl rfl rfl rfl jf_X6_24 (by decide +kernel) rfl rfl dX6_init_41 ?_
  rw [hE]
  exact j_vret o dX6_init_44 ⟨rfl, hw56, h⟩
