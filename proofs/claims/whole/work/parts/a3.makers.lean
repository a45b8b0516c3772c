/-! THE MAKERS -/
def jqp (P : jP) (Q : jP → jM → jN → Prop) : Option Value → jP → jM → jN → Prop := fun v P' M' N' => v = none ∧ Pext P P' ∧ Q P' M' N'
theorem jNm_2 {y2 : MethodName} {n : Nat} {as : List Value} (h : jNm y2 n) (hn : as.length = n) : jN2 y2 as := by
  subst hn
  exact h
abbrev rm_X2_init : Room := { frames := 1, cells := 3, slots := 36, locals := 24 }
def w_X2_init (P : jP) (g : Nat) (M : jM) (N : jN) (Q : jP → jM → jN → Prop) : Prop :=
  P.2.1 g = true ∧
  kob g = some (2, [0, g + 1, g + 2, g + 3]) ∧
  g < 200 ∧
  kob (g + 1) = none ∧
  (∀ (P : jP) (tA : Nat → ClassId) (f : Nat → Int32) (h : Nat → Int64), P.2.1 (g + 1) = true → LC tA P (g + 1) f h = some (.inl (tA 0, 12, .inl f))) ∧
  kob (g + 2) = none ∧
  (∀ (P : jP) (tA : Nat → ClassId) (f : Nat → Int32) (h : Nat → Int64), P.2.1 (g + 2) = true → LC tA P (g + 2) f h = some (.inl (tA 0, 12, .inl f))) ∧
  kob (g + 3) = none ∧
  (∀ (P : jP) (tA : Nat → ClassId) (f : Nat → Int32) (h : Nat → Int64), P.2.1 (g + 3) = true → LC tA P (g + 3) f h = some (.inl (tA 0, 12, .inl f))) ∧
  rfree kob LC P M (g + 1) ∧
  ∀ b9 : Nat,
  ∀ P10 : jP, P10 = pnew P (g + 1) b9 →
  rfree kob LC P10 (upM (zM M (g + 1)) g 1 1) (g + 2) ∧
  ∀ b17 : Nat,
  ∀ P18 : jP, P18 = pnew P10 (g + 2) b17 →
  ∀ M25 : jM, M25 = zM (upM (zM M (g + 1)) g 1 1) (g + 2) →
  ∀ N26 : jN, N26 = zN (zN N (g + 1)) (g + 2) →
  rfree kob LC P18 (upM M25 g 2 1) (g + 3) ∧
  ∀ b28 : Nat,
  ∀ P29 : jP, P29 = pnew P18 (g + 3) b28 →
  ∀ M37 : jM, M37 = zM (upM M25 g 2 1) (g + 3) →
  Q P29 (upM M37 g 3 1) (zN N26 (g + 3))
set_option maxRecDepth 20000 in
theorem c_X2_init (l : Launch) (P : jP) (g : Nat) (M : jM) (N : jN) (Q : jP → jM → jN → Prop) (h : w_X2_init P g M N Q) : jC l yX2_init cX2_init 1 none rm_X2_init LK [.ref (P.1 g)] P M N (jqp P Q) := by
  refine jC_of (by decide +kernel) [(0, .ref (P.1 g))] (Nat.le_of_ble_eq_true rfl) rfl (fun X o  => ?_)
  obtain ⟨E, hE⟩ : ∃ E, E = jE X rm_X2_init (jqp P Q) := ⟨_, rfl⟩
  rw [← hE]
  unfold w_X2_init at h
  obtain ⟨hp1, h⟩ := h
  obtain ⟨hob, h⟩ := h
  obtain ⟨hg, h⟩ := h
  obtain ⟨hka2, h⟩ := h
  obtain ⟨hkb3, h⟩ := h
  obtain ⟨hka4, h⟩ := h
  obtain ⟨hkb5, h⟩ := h
  obtain ⟨hka6, h⟩ := h
  obtain ⟨hkb7, h⟩ := h
  refine j_aload_n o dX2_init_0 rfl ?_
  refine j_objInit o io_X2_3 ⟨Nat.le_of_ble_eq_true rfl, Nat.le_of_ble_eq_true rfl⟩ dX2_init_1 ?_
  refine j_aload_n o dX2_init_4 rfl ?_
  refine j_bipush o (v := 12) dX2_init_5 rfl ?_
  obtain ⟨hf8, h⟩ := h
  refine r_newarr (g := g + 1) (ti := 0) (nn := 12) (B := 12) (atype := .int) (ty := .int) (a0 := (12, .inl (fun _ => 0))) o rfl (fun _ => rfl) (fun _ _ h => h) (fun _ => rfl) (iz_int _ List.mem_cons_self) rfl (Nat.le_refl _) (Nat.le_of_ble_eq_true rfl) (Nat.le_of_ble_eq_true rfl) hf8.hold (fun a tA e he => rnew_ar hka2 (hkb3 _ _ _ _ (pnew_at _ _ _).1) he) ⟨Nat.le_of_ble_eq_true rfl, Nat.le_of_ble_eq_true rfl⟩ dX2_init_7 (fun b9 => ?_)
  obtain ⟨P10, hP11⟩ : ∃ P9, P9 = pnew P (g + 1) b9 := ⟨_, rfl⟩
  rw [← hP11]
  replace h := h b9 P10 hP11
  have hx12 : Pext P P10 := (by rw [hP11]; exact Pext.new hf8.1)
  have hp13 : P10.2.1 g = true := (hx12.1 _ hp1).1
  have hp14 : P10.2.1 (g + 1) = true := (by rw [hP11]; exact (pnew_at _ _ _).1)
  have hp14a : P10.1 (g + 1) = b9 := (show P10.1 (g + 1) = b9 by rw [hP11]; exact (pnew_at _ _ _).2)
  refine j_conv (lo' := [(0, .ref (P10.1 g))]) (st' := [.ref (P10.1 (g + 1)), .ref (P10.1 g)]) (by rw [(hx12.1 g hp1).2] <;> rfl) (by rw [(hx12.1 g hp1).2, hp14a] <;> rfl) ?_
  have hw15 : Pext P P10 := hx12
  refine r_putF (g := g) (slot := 1) (x := 1) (ci := 2) (ty := .array .int) o hp13 hob rfl (rfv_r ⟨by omega, by omega, by omega⟩) rfl jin_X2 tyX2_ok nmX2 (by decide) rfl rfl rfl rfl jf_X2_9 (by decide +kernel) rfl rfl dX2_init_9 ?_
  refine j_aload_n o dX2_init_12 rfl ?_
  refine j_bipush o (v := 12) dX2_init_13 rfl ?_
  obtain ⟨hf16, h⟩ := h
  refine r_newarr (g := g + 2) (ti := 0) (nn := 12) (B := 12) (atype := .int) (ty := .int) (a0 := (12, .inl (fun _ => 0))) o rfl (fun _ => rfl) (fun _ _ h => h) (fun _ => rfl) (iz_int _ List.mem_cons_self) rfl (Nat.le_refl _) (Nat.le_of_ble_eq_true rfl) (Nat.le_of_ble_eq_true rfl) hf16.hold (fun a tA e he => rnew_ar hka4 (hkb5 _ _ _ _ (pnew_at _ _ _).1) he) ⟨Nat.le_of_ble_eq_true rfl, Nat.le_of_ble_eq_true rfl⟩ dX2_init_15 (fun b17 => ?_)
  obtain ⟨P18, hP19⟩ : ∃ P9, P9 = pnew P10 (g + 2) b17 := ⟨_, rfl⟩
  rw [← hP19]
  replace h := h b17 P18 hP19
  have hx20 : Pext P10 P18 := (by rw [hP19]; exact Pext.new hf16.1)
  have hp21 : P18.2.1 g = true := (hx20.1 _ hp13).1
  have hp22 : P18.2.1 (g + 1) = true := (hx20.1 _ hp14).1
  have hp23 : P18.2.1 (g + 2) = true := (by rw [hP19]; exact (pnew_at _ _ _).1)
  have hp23a : P18.1 (g + 2) = b17 := (show P18.1 (g + 2) = b17 by rw [hP19]; exact (pnew_at _ _ _).2)
  refine j_conv (lo' := [(0, .ref (P18.1 g))]) (st' := [.ref (P18.1 (g + 2)), .ref (P18.1 g)]) (by rw [(hx20.1 g hp13).2] <;> rfl) (by rw [(hx20.1 g hp13).2, hp23a] <;> rfl) ?_
  have hw24 : Pext P P18 := hw15.trans hx20
  refine j_nameM (fun M25 hM25 => ?_)
  replace h := h M25 hM25
  refine j_nameN (fun N26 hN26 => ?_)
  replace h := h N26 hN26
  refine r_putF (g := g) (slot := 2) (x := 1) (ci := 2) (ty := .array .int) o hp21 hob rfl (rfv_r ⟨by omega, by omega, by omega⟩) rfl jin_X2 tyX2_ok nmX2 (by decide) rfl rfl rfl rfl jf_X2_15 (by decide +kernel) rfl rfl dX2_init_17 ?_
  refine j_aload_n o dX2_init_20 rfl ?_
  refine j_bipush o (v := 12) dX2_init_21 rfl ?_
  obtain ⟨hf27, h⟩ := h
  refine r_newarr (g := g + 3) (ti := 0) (nn := 12) (B := 12) (atype := .int) (ty := .int) (a0 := (12, .inl (fun _ => 0))) o rfl (fun _ => rfl) (fun _ _ h => h) (fun _ => rfl) (iz_int _ List.mem_cons_self) rfl (Nat.le_refl _) (Nat.le_of_ble_eq_true rfl) (Nat.le_of_ble_eq_true rfl) hf27.hold (fun a tA e he => rnew_ar hka6 (hkb7 _ _ _ _ (pnew_at _ _ _).1) he) ⟨Nat.le_of_ble_eq_true rfl, Nat.le_of_ble_eq_true rfl⟩ dX2_init_23 (fun b28 => ?_)
  obtain ⟨P29, hP30⟩ : ∃ P9, P9 = pnew P18 (g + 3) b28 := ⟨_, rfl⟩
  rw [← hP30]
  replace h := h b28 P29 hP30
  have hx31 : Pext P18 P29 := (by rw [hP30]; exact Pext.new hf27.1)
  have hp32 : P29.2.1 g = true := (hx31.1 _ hp21).1
  have hp33 : P29.2.1 (g + 1) = true := (hx31.1 _ hp22).1
  have hp34 : P29.2.1 (g + 2) = true := (hx31.1 _ hp23).1
  have hp35 : P29.2.1 (g + 3) = true := (by rw [hP30]; exact (pnew_at _ _ _).1)
  have hp35a : P29.1 (g + 3) = b28 := (show P29.1 (g + 3) = b28 by rw [hP30]; exact (pnew_at _ _ _).2)
  refine j_conv (lo' := [(0, .ref (P29.1 g))]) (st' := [.ref (P29.1 (g + 3)), .ref (P29.1 g)]) (by rw [(hx31.1 g hp21).2] <;> rfl) (by rw [(hx31.1 g hp21).2, hp35a] <;> rfl) ?_
  have hw36 : Pext P P29 := hw24.trans hx31
  refine j_nameM (fun M37 hM37 => ?_)
  replace h := h M37 hM37
  refine r_putF (g := g) (slot := 3) (x := 1) (ci := 2) (ty := .array .int) o hp32 hob rfl (rfv_r ⟨by omega, by omega, by omega⟩) rfl jin_X2 tyX2_ok nmX2 (by decide) rfl rfl rfl rfl jf_X2_18 (by decide +kernel) rfl rfl dX2_init_25 ?_
  rw [hE]
  exact j_vret o dX2_init_28 ⟨rfl, hw36, h⟩

abbrev rm_X4_init : Room := { frames := 1, cells := 4, slots := 20719, locals := 24 }
def w_X4_init (P : jP) (g : Nat) (a1 : Int32) (a2 : Int32) (a3 : Int32) (M : jM) (N : jN) (Q : jP → jM → jN → Prop) : Prop :=
  P.2.1 g = true ∧
  kob g = some (4, [0, g + 1, g + 2, g + 3, g + 4, 0, 0]) ∧
  g < 200 ∧
  kob (g + 1) = none ∧
  (∀ (P : jP) (tA : Nat → ClassId) (f : Nat → Int32) (h : Nat → Int64), P.2.1 (g + 1) = true → LC tA P (g + 1) f h = some (.inl (tA 0, 12, .inl f))) ∧
  kob (g + 2) = none ∧
  (∀ (P : jP) (tA : Nat → ClassId) (f : Nat → Int32) (h : Nat → Int64), P.2.1 (g + 2) = true → LC tA P (g + 2) f h = some (.inl (tA 0, P.2.2 1, .inl f))) ∧
  kob (g + 3) = none ∧
  (∀ (P : jP) (tA : Nat → ClassId) (f : Nat → Int32) (h : Nat → Int64), P.2.1 (g + 3) = true → LC tA P (g + 3) f h = some (.inl (tA 0, P.2.2 1, .inl f))) ∧
  kob (g + 4) = none ∧
  (∀ (P : jP) (tA : Nat → ClassId) (f : Nat → Int32) (h : Nat → Int64), P.2.1 (g + 4) = true → LC tA P (g + 4) f h = some (.inl (tA 0, P.2.2 2, .inl f))) ∧
  rfree kob LC P M (g + 1) ∧
  ∀ b11 : Nat,
  ∀ P12 : jP, P12 = pnew P (g + 1) b11 →
  ∀ M18 : jM, M18 = upM (upM (zM M (g + 1)) g 1 1) g 5 (-1) →
  ∀ M19 : jM, M19 = upM (upM M18 g 6 (-1)) g 0 a1 →
  rfree kob LC P12 M19 (g + 2) ∧
  a2 = nI (P12.2.2 1) ∧
  P12.2.2 1 ≤ 512 ∧
  ∀ b23 : Nat,
  ∀ P24 : jP, P24 = pnew P12 (g + 2) b23 →
  ∀ N31 : jN, N31 = zN (zN N (g + 1)) (g + 2) →
  ∀ M32 : jM, M32 = upM (zM M19 (g + 2)) g 2 1 →
  rfree kob LC P24 M32 (g + 3) ∧
  a2 = nI (P24.2.2 1) ∧
  P24.2.2 1 ≤ 512 ∧
  ∀ b36 : Nat,
  ∀ P37 : jP, P37 = pnew P24 (g + 3) b36 →
  ∀ M45 : jM, M45 = upM (zM M32 (g + 3)) g 3 1 →
  rfree kob LC P37 M45 (g + 4) ∧
  a3 = nI (P37.2.2 2) ∧
  P37.2.2 2 ≤ 19683 ∧
  ∀ b49 : Nat,
  ∀ P50 : jP, P50 = pnew P37 (g + 4) b49 →
  ∀ N59 : jN, N59 = zN (zN N31 (g + 3)) (g + 4) →
  ∀ M60 : jM, M60 = upM (zM M45 (g + 4)) g 4 1 →
  Q P50 M60 N59
set_option maxRecDepth 20000 in
theorem c_X4_init (l : Launch) (P : jP) (g : Nat) (a1 : Int32) (a2 : Int32) (a3 : Int32) (M : jM) (N : jN) (Q : jP → jM → jN → Prop) (h : w_X4_init P g a1 a2 a3 M N Q) : jC l yX4_init cX4_init 4 none rm_X4_init LK [.ref (P.1 g), .int a1, .int a2, .int a3] P M N (jqp P Q) := by
  refine jC_of (by decide +kernel) [(0, .ref (P.1 g)), (1, .int a1), (2, .int a2), (3, .int a3)] (Nat.le_of_ble_eq_true rfl) rfl (fun X o  => ?_)
  obtain ⟨E, hE⟩ : ∃ E, E = jE X rm_X4_init (jqp P Q) := ⟨_, rfl⟩
  rw [← hE]
  unfold w_X4_init at h
  obtain ⟨hp1, h⟩ := h
  obtain ⟨hob, h⟩ := h
  obtain ⟨hg, h⟩ := h
  obtain ⟨hka2, h⟩ := h
  obtain ⟨hkb3, h⟩ := h
  obtain ⟨hka4, h⟩ := h
  obtain ⟨hkb5, h⟩ := h
  obtain ⟨hka6, h⟩ := h
  obtain ⟨hkb7, h⟩ := h
  obtain ⟨hka8, h⟩ := h
  obtain ⟨hkb9, h⟩ := h
  refine j_aload_n o dX4_init_0 rfl ?_
  refine j_objInit o io_X4_3 ⟨Nat.le_of_ble_eq_true rfl, Nat.le_of_ble_eq_true rfl⟩ dX4_init_1 ?_
  refine j_aload_n o dX4_init_4 rfl ?_
  refine j_bipush o (v := 12) dX4_init_5 rfl ?_
  obtain ⟨hf10, h⟩ := h
  refine r_newarr (g := g + 1) (ti := 0) (nn := 12) (B := 12) (atype := .int) (ty := .int) (a0 := (12, .inl (fun _ => 0))) o rfl (fun _ => rfl) (fun _ _ h => h) (fun _ => rfl) (iz_int _ List.mem_cons_self) rfl (Nat.le_refl _) (Nat.le_of_ble_eq_true rfl) (Nat.le_of_ble_eq_true rfl) hf10.hold (fun a tA e he => rnew_ar hka2 (hkb3 _ _ _ _ (pnew_at _ _ _).1) he) ⟨Nat.le_of_ble_eq_true rfl, Nat.le_of_ble_eq_true rfl⟩ dX4_init_7 (fun b11 => ?_)
  obtain ⟨P12, hP13⟩ : ∃ P9, P9 = pnew P (g + 1) b11 := ⟨_, rfl⟩
  rw [← hP13]
  replace h := h b11 P12 hP13
  have hx14 : Pext P P12 := (by rw [hP13]; exact Pext.new hf10.1)
  have hp15 : P12.2.1 g = true := (hx14.1 _ hp1).1
  have hp16 : P12.2.1 (g + 1) = true := (by rw [hP13]; exact (pnew_at _ _ _).1)
  have hp16a : P12.1 (g + 1) = b11 := (show P12.1 (g + 1) = b11 by rw [hP13]; exact (pnew_at _ _ _).2)
  refine j_conv (lo' := [(0, .ref (P12.1 g)), (1, .int a1), (2, .int a2), (3, .int a3)]) (st' := [.ref (P12.1 (g + 1)), .ref (P12.1 g)]) (by rw [(hx14.1 g hp1).2] <;> rfl) (by rw [(hx14.1 g hp1).2, hp16a] <;> rfl) ?_
  have hw17 : Pext P P12 := hx14
  refine r_putF (g := g) (slot := 1) (x := 1) (ci := 4) (ty := .array .int) o hp15 hob rfl (rfv_r ⟨by omega, by omega, by omega⟩) rfl jin_X4 tyX4_ok nmX4 (by decide) rfl rfl rfl rfl jf_X4_9 (by decide +kernel) rfl rfl dX4_init_9 ?_
  refine j_aload_n o dX4_init_12 rfl ?_
  refine j_iconst o (v := (-1)) dX4_init_13 rfl ?_
  refine r_put (g := g) (slot := 5) (x := (-1)) (ci := 4) (ty := .int) o hp15 hob rfl rfv_i rfl jin_X4 tyX4_ok nmX4 (by decide) rfl rfl jf_X4_15 (by decide +kernel) rfl rfl dX4_init_14 ?_
  refine j_nameM (fun M18 hM18 => ?_)
  replace h := h M18 hM18
  refine j_aload_n o dX4_init_17 rfl ?_
  refine j_iconst o (v := (-1)) dX4_init_18 rfl ?_
  refine r_put (g := g) (slot := 6) (x := (-1)) (ci := 4) (ty := .int) o hp15 hob rfl rfv_i rfl jin_X4 tyX4_ok nmX4 (by decide) rfl rfl jf_X4_19 (by decide +kernel) rfl rfl dX4_init_19 ?_
  refine j_aload_n o dX4_init_22 rfl ?_
  refine j_iload_n o dX4_init_23 rfl ?_
  refine r_putF (g := g) (slot := 0) (x := a1) (ci := 4) (ty := .int) o hp15 hob rfl rfv_i rfl jin_X4 tyX4_ok nmX4 (by decide) rfl rfl rfl rfl jf_X4_22 (by decide +kernel) rfl rfl dX4_init_24 ?_
  refine j_nameM (fun M19 hM19 => ?_)
  replace h := h M19 hM19
  refine j_aload_n o dX4_init_27 rfl ?_
  refine j_iload_n o dX4_init_28 rfl ?_
  obtain ⟨hf20, h⟩ := h
  obtain ⟨hn21, h⟩ := h
  obtain ⟨hb22, h⟩ := h
  refine r_newarr (g := g + 2) (ti := 0) (nn := P12.2.2 1) (B := 512) (atype := .int) (ty := .int) (a0 := (P12.2.2 1, .inl (fun _ => 0))) o rfl (fun _ => rfl) (fun _ _ h => h) (fun _ => rfl) (iz_int _ List.mem_cons_self) hn21 hb22 (Nat.le_of_ble_eq_true rfl) (Nat.le_of_ble_eq_true rfl) hf20.hold (fun a tA e he => rnew_ar hka4 (hkb5 _ _ _ _ (pnew_at _ _ _).1) he) ⟨Nat.le_of_ble_eq_true rfl, Nat.le_of_ble_eq_true rfl⟩ dX4_init_29 (fun b23 => ?_)
  obtain ⟨P24, hP25⟩ : ∃ P9, P9 = pnew P12 (g + 2) b23 := ⟨_, rfl⟩
  rw [← hP25]
  replace h := h b23 P24 hP25
  have hx26 : Pext P12 P24 := (by rw [hP25]; exact Pext.new hf20.1)
  have hp27 : P24.2.1 g = true := (hx26.1 _ hp15).1
  have hp28 : P24.2.1 (g + 1) = true := (hx26.1 _ hp16).1
  have hp29 : P24.2.1 (g + 2) = true := (by rw [hP25]; exact (pnew_at _ _ _).1)
  have hp29a : P24.1 (g + 2) = b23 := (show P24.1 (g + 2) = b23 by rw [hP25]; exact (pnew_at _ _ _).2)
  refine j_conv (lo' := [(0, .ref (P24.1 g)), (1, .int a1), (2, .int a2), (3, .int a3)]) (st' := [.ref (P24.1 (g + 2)), .ref (P24.1 g)]) (by rw [(hx26.1 g hp15).2] <;> rfl) (by rw [(hx26.1 g hp15).2, hp29a] <;> rfl) ?_
  have hw30 : Pext P P24 := hw17.trans hx26
  refine j_nameN (fun N31 hN31 => ?_)
  replace h := h N31 hN31
  refine r_putF (g := g) (slot := 2) (x := 1) (ci := 4) (ty := .array .int) o hp27 hob rfl (rfv_r ⟨by omega, by omega, by omega⟩) rfl jin_X4 tyX4_ok nmX4 (by decide) rfl rfl rfl rfl jf_X4_25 (by decide +kernel) rfl rfl dX4_init_31 ?_
  refine j_nameM (fun M32 hM32 => ?_)
  replace h := h M32 hM32
  refine j_aload_n o dX4_init_34 rfl ?_
  refine j_iload_n o dX4_init_35 rfl ?_
  obtain ⟨hf33, h⟩ := h
  obtain ⟨hn34, h⟩ := h
  obtain ⟨hb35, h⟩ := h
  refine r_newarr (g := g + 3) (ti := 0) (nn := P24.2.2 1) (B := 512) (atype := .int) (ty := .int) (a0 := (P24.2.2 1, .inl (fun _ => 0))) o rfl (fun _ => rfl) (fun _ _ h => h) (fun _ => rfl) (iz_int _ List.mem_cons_self) hn34 hb35 (Nat.le_of_ble_eq_true rfl) (Nat.le_of_ble_eq_true rfl) hf33.hold (fun a tA e he => rnew_ar hka6 (hkb7 _ _ _ _ (pnew_at _ _ _).1) he) ⟨Nat.le_of_ble_eq_true rfl, Nat.le_of_ble_eq_true rfl⟩ dX4_init_36 (fun b36 => ?_)
  obtain ⟨P37, hP38⟩ : ∃ P9, P9 = pnew P24 (g + 3) b36 := ⟨_, rfl⟩
  rw [← hP38]
  replace h := h b36 P37 hP38
  have hx39 : Pext P24 P37 := (by rw [hP38]; exact Pext.new hf33.1)
  have hp40 : P37.2.1 g = true := (hx39.1 _ hp27).1
  have hp41 : P37.2.1 (g + 1) = true := (hx39.1 _ hp28).1
  have hp42 : P37.2.1 (g + 2) = true := (hx39.1 _ hp29).1
  have hp43 : P37.2.1 (g + 3) = true := (by rw [hP38]; exact (pnew_at _ _ _).1)
  have hp43a : P37.1 (g + 3) = b36 := (show P37.1 (g + 3) = b36 by rw [hP38]; exact (pnew_at _ _ _).2)
  refine j_conv (lo' := [(0, .ref (P37.1 g)), (1, .int a1), (2, .int a2), (3, .int a3)]) (st' := [.ref (P37.1 (g + 3)), .ref (P37.1 g)]) (by rw [(hx39.1 g hp27).2] <;> rfl) (by rw [(hx39.1 g hp27).2, hp43a] <;> rfl) ?_
  have hw44 : Pext P P37 := hw30.trans hx39
  refine r_putF (g := g) (slot := 3) (x := 1) (ci := 4) (ty := .array .int) o hp40 hob rfl (rfv_r ⟨by omega, by omega, by omega⟩) rfl jin_X4 tyX4_ok nmX4 (by decide) rfl rfl rfl rfl jf_X4_28 (by decide +kernel) rfl rfl dX4_init_38 ?_
  refine j_nameM (fun M45 hM45 => ?_)
  replace h := h M45 hM45
  refine j_aload_n o dX4_init_41 rfl ?_
  refine j_iload_n o dX4_init_42 rfl ?_
  obtain ⟨hf46, h⟩ := h
  obtain ⟨hn47, h⟩ := h
  obtain ⟨hb48, h⟩ := h
  refine r_newarr (g := g + 4) (ti := 0) (nn := P37.2.2 2) (B := 19683) (atype := .int) (ty := .int) (a0 := (P37.2.2 2, .inl (fun _ => 0))) o rfl (fun _ => rfl) (fun _ _ h => h) (fun _ => rfl) (iz_int _ List.mem_cons_self) hn47 hb48 (Nat.le_of_ble_eq_true rfl) (Nat.le_of_ble_eq_true rfl) hf46.hold (fun a tA e he => rnew_ar hka8 (hkb9 _ _ _ _ (pnew_at _ _ _).1) he) ⟨Nat.le_of_ble_eq_true rfl, Nat.le_of_ble_eq_true rfl⟩ dX4_init_43 (fun b49 => ?_)
  obtain ⟨P50, hP51⟩ : ∃ P9, P9 = pnew P37 (g + 4) b49 := ⟨_, rfl⟩
  rw [← hP51]
  replace h := h b49 P50 hP51
  have hx52 : Pext P37 P50 := (by rw [hP51]; exact Pext.new hf46.1)
  have hp53 : P50.2.1 g = true := (hx52.1 _ hp40).1
  have hp54 : P50.2.1 (g + 1) = true := (hx52.1 _ hp41).1
  have hp55 : P50.2.1 (g + 2) = true := (hx52.1 _ hp42).1
  have hp56 : P50.2.1 (g + 3) = true := (hx52.1 _ hp43).1
  have hp57 : P50.2.1 (g + 4) = true := (by rw [hP51]; exact (pnew_at _ _ _).1)
  have hp57a : P50.1 (g + 4) = b49 := (show P50.1 (g + 4) = b49 by rw [hP51]; exact (pnew_at _ _ _).2)
  refine j_conv (lo' := [(0, .ref (P50.1 g)), (1, .int a1), (2, .int a2), (3, .int a3)]) (st' := [.ref (P50.1 (g + 4)), .ref (P50.1 g)]) (by rw [(hx52.1 g hp40).2] <;> rfl) (by rw [(hx52.1 g hp40).2, hp57a] <;> rfl) ?_
  have hw58 : Pext P P50 := hw44.trans hx52
  refine j_nameN (fun N59 hN59 => ?_)
  replace h := h N59 hN59
  refine r_putF (g := g) (slot := 4) (x := 1) (ci := 4) (ty := .array .int) o hp53 hob rfl (rfv_r ⟨by omega, by omega, by omega⟩) rfl jin_X4 tyX4_ok nmX4 (by decide) rfl rfl rfl rfl jf_X4_31 (by decide +kernel) rfl rfl dX4_init_45 ?_
  refine j_nameM (fun M60 hM60 => ?_)
  replace h := h M60 hM60
  rw [hE]
  exact j_vret o dX4_init_48 ⟨rfl, hw58, h⟩

abbrev rm_X3_init : Room := { frames := 1, cells := 2, slots := 521, locals := 24 }
def w_X3_init (P : jP) (a1 : Int32) (M : jM) (N : jN) (Q : jP → jM → jN → Prop) : Prop :=
  P.2.1 2 = true ∧
  ∀ M2 : jM, M2 = upM (upM M 2 0 a1) 2 2 ((1 : Int32) <<< (a1 &&& 31)) →
  ∀ M3 : jM, M3 = upM M2 2 1 ((M2 2 2) - 1) →
  rfree kob LC P M3 15 ∧
  a1 = nI (P.2.2 0) ∧
  P.2.2 0 ≤ 9 ∧
  ∀ b7 : Nat,
  ∀ P8 : jP, P8 = pnew P 15 b7 →
  rfree kob LC P8 (upM (zM M3 15) 2 4 1) 16 ∧
  ((upM (zM M3 15) 2 4 1) 2 2) = nI (P8.2.2 1) ∧
  P8.2.2 1 ≤ 512 ∧
  ∀ b17 : Nat,
  ∀ P18 : jP, P18 = pnew P8 16 b17 →
  ∀ M25 : jM, M25 = zM (upM (zM M3 15) 2 4 1) 16 →
  ∀ R47 : Int32 → Int32 → jM → Prop, (∀ (x26 : Int32) (x27 : Int32) (M28 : jM), (
   (a1 ≤ x27 → (
    Q P18 (upM M28 2 3 x26) (zN (zN N 15) 16)
   )) ∧ (¬ a1 ≤ x27 → (
    ¬ M28 2 4 = 0 ∧
    vp_in x27 (P18.2.2 0) ∧
    ∀ M32 : jM, M32 = upM M28 15 x27.toNatClampNeg x26 →
    ∀ R62 : Int32 → jM → Prop, (∀ (x33 : Int32) (M34 : jM), (
     (((1 : Int32) <<< (x27 &&& 31)) ≤ x33 → (
      R47 (x26 * 3) (x27 + 1) M34
     )) ∧ (¬ ((1 : Int32) <<< (x27 &&& 31)) ≤ x33 → (
      ¬ M34 2 5 = 0 ∧
      ¬ M34 2 5 = 0 ∧
      vp_in x33 (P18.2.2 1) ∧
      vp_in (((1 : Int32) <<< (x27 &&& 31)) ||| x33) (P18.2.2 1) ∧
      ∀ M40 : jM, M40 = upM M34 16 (((1 : Int32) <<< (x27 &&& 31)) ||| x33).toNatClampNeg ((M34 16 x33.toNatClampNeg) + x26) →
      R62 (x33 + 1) M40
     ))
    ) → R62 x33 M34) →
    R62 0 M32
   ))
  ) → R47 x26 x27 M28) →
  R47 1 0 (upM M25 2 5 1)
set_option maxRecDepth 20000 in
theorem c_X3_init (l : Launch) (P : jP) (a1 : Int32) (M : jM) (N : jN) (Q : jP → jM → jN → Prop) (h : w_X3_init P a1 M N Q) : jC l yX3_init cX3_init 5 none rm_X3_init LK [.ref (P.1 2), .int a1] P M N (jqp P Q) := by
  refine jC_of (by decide +kernel) [(0, .ref (P.1 2)), (1, .int a1)] (Nat.le_of_ble_eq_true rfl) rfl (fun X o  => ?_)
  obtain ⟨E, hE⟩ : ∃ E, E = jE X rm_X3_init (jqp P Q) := ⟨_, rfl⟩
  rw [← hE]
  unfold w_X3_init at h
  obtain ⟨hp1, h⟩ := h
  refine j_aload_n o dX3_init_0 rfl ?_
  refine j_objInit o io_X3_1 ⟨Nat.le_of_ble_eq_true rfl, Nat.le_of_ble_eq_true rfl⟩ dX3_init_1 ?_
  refine j_aload_n o dX3_init_4 rfl ?_
  refine j_iload_n o dX3_init_5 rfl ?_
  refine r_putF (g := 2) (slot := 0) (x := a1) (ci := 3) (ty := .int) o hp1 rfl rfl rfv_i rfl jin_X3 tyX3_ok nmX3 (by decide) rfl rfl rfl rfl jf_X3_7 (by decide +kernel) rfl rfl dX3_init_6 ?_
  refine j_aload_n o dX3_init_9 rfl ?_
  refine j_iconst o (v := 1) dX3_init_10 rfl ?_
  refine j_iload_n o dX3_init_11 rfl ?_
  refine j_ishl o dX3_init_12 ?_
  refine r_putF (g := 2) (slot := 2) (x := (1 : Int32) <<< (a1 &&& 31)) (ci := 3) (ty := .int) o hp1 rfl rfl rfv_i rfl jin_X3 tyX3_ok nmX3 (by decide) rfl rfl rfl rfl jf_X3_13 (by decide +kernel) rfl rfl dX3_init_13 ?_
  refine j_nameM (fun M2 hM2 => ?_)
  replace h := h M2 hM2
  refine j_aload_n o dX3_init_16 rfl ?_
  refine j_aload_n o dX3_init_17 rfl ?_
  refine r_get (g := 2) (slot := 2) (ci := 3) (v := .int (M2 2 2)) o hp1 rfl rfl rfl rfl jin_X3 (by decide) rfl jf_X3_13 dX3_init_18 ?_
  refine j_iconst o (v := 1) dX3_init_21 rfl ?_
  refine j_isub o dX3_init_22 ?_
  refine r_putF (g := 2) (slot := 1) (x := (M2 2 2) - 1) (ci := 3) (ty := .int) o hp1 rfl rfl rfv_i rfl jin_X3 tyX3_ok nmX3 (by decide) rfl rfl rfl rfl jf_X3_16 (by decide +kernel) rfl rfl dX3_init_23 ?_
  refine j_nameM (fun M3 hM3 => ?_)
  replace h := h M3 hM3
  refine j_aload_n o dX3_init_26 rfl ?_
  refine j_iload_n o dX3_init_27 rfl ?_
  obtain ⟨hf4, h⟩ := h
  obtain ⟨hn5, h⟩ := h
  obtain ⟨hb6, h⟩ := h
  refine r_newarr (g := 15) (ti := 0) (nn := P.2.2 0) (B := 9) (atype := .int) (ty := .int) (a0 := (P.2.2 0, .inl (fun _ => 0))) o rfl (fun _ => rfl) (fun _ _ h => h) (fun _ => rfl) (iz_int _ List.mem_cons_self) hn5 hb6 (Nat.le_of_ble_eq_true rfl) (Nat.le_of_ble_eq_true rfl) hf4.hold (fun a tA e he => rnew_ar rfl rfl he) ⟨Nat.le_of_ble_eq_true rfl, Nat.le_of_ble_eq_true rfl⟩ dX3_init_28 (fun b7 => ?_)
  obtain ⟨P8, hP9⟩ : ∃ P9, P9 = pnew P 15 b7 := ⟨_, rfl⟩
  rw [← hP9]
  replace h := h b7 P8 hP9
  have hx10 : Pext P P8 := (by rw [hP9]; exact Pext.new hf4.1)
  have hp11 : P8.2.1 2 = true := (hx10.1 _ hp1).1
  have hp12 : P8.2.1 15 = true := (by rw [hP9]; exact (pnew_at _ _ _).1)
  have hp12a : P8.1 15 = b7 := (show P8.1 15 = b7 by rw [hP9]; exact (pnew_at _ _ _).2)
  refine j_conv (lo' := [(0, .ref (P8.1 2)), (1, .int a1)]) (st' := [.ref (P8.1 15), .ref (P8.1 2)]) (by rw [(hx10.1 2 hp1).2] <;> rfl) (by rw [(hx10.1 2 hp1).2, hp12a] <;> rfl) ?_
  have hw13 : Pext P P8 := hx10
  refine r_putF (g := 2) (slot := 4) (x := 1) (ci := 3) (ty := .array .int) o hp11 rfl rfl (rfv_r (by decide)) rfl jin_X3 tyX3_ok nmX3 (by decide) rfl rfl rfl rfl jf_X3_19 (by decide +kernel) rfl rfl dX3_init_30 ?_
  refine j_aload_n o dX3_init_33 rfl ?_
  refine j_aload_n o dX3_init_34 rfl ?_
  refine r_get (g := 2) (slot := 2) (ci := 3) (v := .int ((upM (zM M3 15) 2 4 1) 2 2)) o hp11 rfl rfl rfl rfl jin_X3 (by decide) rfl jf_X3_13 dX3_init_35 ?_
  obtain ⟨hf14, h⟩ := h
  obtain ⟨hn15, h⟩ := h
  obtain ⟨hb16, h⟩ := h
  refine r_newarr (g := 16) (ti := 0) (nn := P8.2.2 1) (B := 512) (atype := .int) (ty := .int) (a0 := (P8.2.2 1, .inl (fun _ => 0))) o rfl (fun _ => rfl) (fun _ _ h => h) (fun _ => rfl) (iz_int _ List.mem_cons_self) hn15 hb16 (Nat.le_of_ble_eq_true rfl) (Nat.le_of_ble_eq_true rfl) hf14.hold (fun a tA e he => rnew_ar rfl rfl he) ⟨Nat.le_of_ble_eq_true rfl, Nat.le_of_ble_eq_true rfl⟩ dX3_init_38 (fun b17 => ?_)
  obtain ⟨P18, hP19⟩ : ∃ P9, P9 = pnew P8 16 b17 := ⟨_, rfl⟩
  rw [← hP19]
  replace h := h b17 P18 hP19
  have hx20 : Pext P8 P18 := (by rw [hP19]; exact Pext.new hf14.1)
  have hp21 : P18.2.1 2 = true := (hx20.1 _ hp11).1
  have hp22 : P18.2.1 15 = true := (hx20.1 _ hp12).1
  have hp23 : P18.2.1 16 = true := (by rw [hP19]; exact (pnew_at _ _ _).1)
  have hp23a : P18.1 16 = b17 := (show P18.1 16 = b17 by rw [hP19]; exact (pnew_at _ _ _).2)
  refine j_conv (lo' := [(0, .ref (P18.1 2)), (1, .int a1)]) (st' := [.ref (P18.1 16), .ref (P18.1 2)]) (by rw [(hx20.1 2 hp11).2] <;> rfl) (by rw [(hx20.1 2 hp11).2, hp23a] <;> rfl) ?_
  have hw24 : Pext P P18 := hw13.trans hx20
  refine j_nameM (fun M25 hM25 => ?_)
  replace h := h M25 hM25
  refine r_putF (g := 2) (slot := 5) (x := 1) (ci := 3) (ty := .array .int) o hp21 rfl rfl (rfv_r (by decide)) rfl jin_X3 tyX3_ok nmX3 (by decide) rfl rfl rfl rfl jf_X3_23 (by decide +kernel) rfl rfl dX3_init_40 ?_
  refine j_iconst o (v := 1) dX3_init_43 rfl ?_
  refine j_istore_n o [(2, .int 1), (0, .ref (P18.1 2)), (1, .int a1)] dX3_init_44 (by decide) rfl ?_
  refine j_iconst o (v := 0) dX3_init_45 rfl ?_
  refine j_istore_n o [(3, .int 0), (2, .int 1), (0, .ref (P18.1 2)), (1, .int a1)] dX3_init_46 (by decide) rfl ?_
  replace h := h (fun (x26 : Int32) (x27 : Int32) (M28 : jM) => J X P18 M28 (zN (zN N 15) 16) 2 521 E 5 47 [(0, .ref (P18.1 2)), (1, .int a1), (2, .int x26), (3, .int x27)] []) (by
    intro x26 x27 M28 h
    refine j_iload_n o dX3_init_47 rfl ?_
    refine j_iload_n o dX3_init_48 rfl ?_
    refine j_icmp_ge o (tgt := 106) dX3_init_49 (by decide) (fun c29 => ?_) (fun c29 => ?_)
    · replace h := h.1 c29
      refine j_aload_n o dX3_init_106 rfl ?_
      refine j_iload_n o dX3_init_107 rfl ?_
      refine r_putF (g := 2) (slot := 3) (x := x26) (ci := 3) (ty := .int) o hp21 rfl rfl rfv_i rfl jin_X3 tyX3_ok nmX3 (by decide) rfl rfl rfl rfl jf_X3_26 (by decide +kernel) rfl rfl dX3_init_108 ?_
      rw [hE]
      exact j_vret o dX3_init_111 ⟨rfl, hw24, h⟩
    · replace h := h.2 c29
      refine j_aload_n o dX3_init_52 rfl ?_
      obtain ⟨hz30, h⟩ := h
      refine r_get (g := 2) (slot := 4) (ci := 3) (v := .ref (P18.1 15)) o hp21 rfl rfl (rfv_r0 (by decide) hz30) rfl jin_X3 (by decide) rfl jf_X3_19 dX3_init_53 ?_
      refine j_iload_n o dX3_init_56 rfl ?_
      refine j_iload_n o dX3_init_57 rfl ?_
      obtain ⟨hb31, h⟩ := h
      refine j_iast o (g := 15) (fun tA f h => (LR_ar hp22 rfl tA f h).trans rfl) hb31 dX3_init_58 ?_
      refine j_nameM (fun M32 hM32 => ?_)
      replace h := h M32 hM32
      refine j_iconst o (v := 0) dX3_init_59 rfl ?_
      refine j_istore o [(4, .int 0), (0, .ref (P18.1 2)), (1, .int a1), (2, .int x26), (3, .int x27)] dX3_init_60 (by decide) rfl ?_
      replace h := h (fun (x33 : Int32) (M34 : jM) => J X P18 M34 (zN (zN N 15) 16) 2 521 E 5 62 [(0, .ref (P18.1 2)), (1, .int a1), (2, .int x26), (3, .int x27), (4, .int x33)] []) (by
        intro x33 M34 h
        refine j_iload o dX3_init_62 rfl ?_
        refine j_iconst o (v := 1) dX3_init_64 rfl ?_
        refine j_iload_n o dX3_init_65 rfl ?_
        refine j_ishl o dX3_init_66 ?_
        refine j_icmp_ge o (tgt := 96) dX3_init_67 (by decide) (fun c35 => ?_) (fun c35 => ?_)
        · replace h := h.1 c35
          refine j_iload_n o dX3_init_96 rfl ?_
          refine j_iconst o (v := 3) dX3_init_97 rfl ?_
          refine j_imul o dX3_init_98 ?_
          refine j_istore_n o [(2, .int (x26 * 3)), (0, .ref (P18.1 2)), (1, .int a1), (3, .int x27), (4, .int x33)] dX3_init_99 (by decide) rfl ?_
          refine j_iinc o (v := x27 + 1) [(3, .int (x27 + 1)), (2, .int (x26 * 3)), (0, .ref (P18.1 2)), (1, .int a1), (4, .int x33)] dX3_init_100 rfl rfl (by decide) rfl ?_
          refine j_goto o (tgt := 47) dX3_init_103 (by decide) ?_
          exact j_pick [2, 3, 1, 0] rfl h
        · replace h := h.2 c35
          refine j_aload_n o dX3_init_70 rfl ?_
          obtain ⟨hz36, h⟩ := h
          refine r_get (g := 2) (slot := 5) (ci := 3) (v := .ref (P18.1 16)) o hp21 rfl rfl (rfv_r0 (by decide) hz36) rfl jin_X3 (by decide) rfl jf_X3_23 dX3_init_71 ?_
          refine j_iconst o (v := 1) dX3_init_74 rfl ?_
          refine j_iload_n o dX3_init_75 rfl ?_
          refine j_ishl o dX3_init_76 ?_
          refine j_iload o dX3_init_77 rfl ?_
          refine j_ior o dX3_init_79 ?_
          refine j_aload_n o dX3_init_80 rfl ?_
          obtain ⟨hz37, h⟩ := h
          refine r_get (g := 2) (slot := 5) (ci := 3) (v := .ref (P18.1 16)) o hp21 rfl rfl (rfv_r0 (by decide) hz37) rfl jin_X3 (by decide) rfl jf_X3_23 dX3_init_81 ?_
          refine j_iload o dX3_init_84 rfl ?_
          obtain ⟨hb38, h⟩ := h
          refine j_iald o (g := 16) (fun tA => (LR_ar hp23 rfl tA _ _).trans rfl) hb38 dX3_init_86 ?_
          refine j_iload_n o dX3_init_87 rfl ?_
          refine j_iadd o dX3_init_88 ?_
          obtain ⟨hb39, h⟩ := h
          refine j_iast o (g := 16) (fun tA f h => (LR_ar hp23 rfl tA f h).trans rfl) hb39 dX3_init_89 ?_
          refine j_nameM (fun M40 hM40 => ?_)
          replace h := h M40 hM40
          refine j_iinc o (v := x33 + 1) [(4, .int (x33 + 1)), (0, .ref (P18.1 2)), (1, .int a1), (2, .int x26), (3, .int x27)] dX3_init_90 rfl rfl (by decide) rfl ?_
          refine j_goto o (tgt := 62) dX3_init_93 (by decide) ?_
          exact j_pick [1, 2, 3, 4, 0] rfl h)
      exact j_pick [1, 2, 3, 4, 0] rfl h)
  exact j_pick [2, 3, 1, 0] rfl h

abbrev rm_X10_init : Room := { frames := 1, cells := 1, slots := 160, locals := 24 }
def w_X10_init (P : jP)  (M : jM) (N : jN) (Q : jP → jM → jN → Prop) : Prop :=
  P.2.1 3 = true ∧
  rfree kob LC P M 17 ∧
  ∀ b3 : Nat,
  ∀ P4 : jP, P4 = pnew P 17 b3 →
  ∀ M10 : jM, M10 = upM (upM (zM M 17) 3 0 1) 3 3 (-1) →
  Q P4 M10 (zN N 17)
set_option maxRecDepth 20000 in
theorem c_X10_init (l : Launch) (P : jP)  (M : jM) (N : jN) (Q : jP → jM → jN → Prop) (h : w_X10_init P M N Q) : jC l yX10_init cX10_init 1 none rm_X10_init LK [.ref (P.1 3)] P M N (jqp P Q) := by
  refine jC_of (by decide +kernel) [(0, .ref (P.1 3))] (Nat.le_of_ble_eq_true rfl) rfl (fun X o  => ?_)
  obtain ⟨E, hE⟩ : ∃ E, E = jE X rm_X10_init (jqp P Q) := ⟨_, rfl⟩
  rw [← hE]
  unfold w_X10_init at h
  obtain ⟨hp1, h⟩ := h
  refine j_aload_n o dX10_init_0 rfl ?_
  refine j_objInit o io_X10_3 ⟨Nat.le_of_ble_eq_true rfl, Nat.le_of_ble_eq_true rfl⟩ dX10_init_1 ?_
  refine j_aload_n o dX10_init_4 rfl ?_
  refine j_sipush o (v := 160) dX10_init_5 rfl ?_
  obtain ⟨hf2, h⟩ := h
  refine r_newarr (g := 17) (ti := 0) (nn := 160) (B := 160) (atype := .int) (ty := .int) (a0 := (160, .inl (fun _ => 0))) o rfl (fun _ => rfl) (fun _ _ h => h) (fun _ => rfl) (iz_int _ List.mem_cons_self) rfl (Nat.le_refl _) (Nat.le_of_ble_eq_true rfl) (Nat.le_of_ble_eq_true rfl) hf2.hold (fun a tA e he => rnew_ar rfl rfl he) ⟨Nat.le_of_ble_eq_true rfl, Nat.le_of_ble_eq_true rfl⟩ dX10_init_8 (fun b3 => ?_)
  obtain ⟨P4, hP5⟩ : ∃ P9, P9 = pnew P 17 b3 := ⟨_, rfl⟩
  rw [← hP5]
  replace h := h b3 P4 hP5
  have hx6 : Pext P P4 := (by rw [hP5]; exact Pext.new hf2.1)
  have hp7 : P4.2.1 3 = true := (hx6.1 _ hp1).1
  have hp8 : P4.2.1 17 = true := (by rw [hP5]; exact (pnew_at _ _ _).1)
  have hp8a : P4.1 17 = b3 := (show P4.1 17 = b3 by rw [hP5]; exact (pnew_at _ _ _).2)
  refine j_conv (lo' := [(0, .ref (P4.1 3))]) (st' := [.ref (P4.1 17), .ref (P4.1 3)]) (by rw [(hx6.1 3 hp1).2] <;> rfl) (by rw [(hx6.1 3 hp1).2, hp8a] <;> rfl) ?_
  have hw9 : Pext P P4 := hx6
  refine r_putF (g := 3) (slot := 0) (x := 1) (ci := 10) (ty := .array .int) o hp7 rfl rfl (rfv_r (by decide)) rfl jin_X10 tyX10_ok nmX10 (by decide) rfl rfl rfl rfl jf_X10_9 (by decide +kernel) rfl rfl dX10_init_10 ?_
  refine j_aload_n o dX10_init_13 rfl ?_
  refine j_iconst o (v := (-1)) dX10_init_14 rfl ?_
  refine r_put (g := 3) (slot := 3) (x := (-1)) (ci := 10) (ty := .int) o hp7 rfl rfl rfv_i rfl jin_X10 tyX10_ok nmX10 (by decide) rfl rfl jf_X10_15 (by decide +kernel) rfl rfl dX10_init_15 ?_
  refine j_nameM (fun M10 hM10 => ?_)
  replace h := h M10 hM10
  rw [hE]
  exact j_vret o dX10_init_18 ⟨rfl, hw9, h⟩

abbrev rm_X7_init : Room := { frames := 2, cells := 9, slots := 248, locals := 44 }
def w_X7_init (P : jP) (a2 : Int32) (M : jM) (N : jN) (Q : jP → jM → jN → Prop) : Prop :=
  P.2.1 4 = true ∧
  P.2.1 3 = true ∧
  rfree kob LC P M 18 ∧
  ∀ b4 : Nat,
  ∀ P5 : jP, P5 = pnew P 18 b4 →
  rfree kob LC P5 (upM (zM M 18) 4 2 1) 19 ∧
  ∀ b13 : Nat,
  ∀ P14 : jP, P14 = pnew P5 19 b13 →
  ∀ M22 : jM, M22 = zM (upM (zM M 18) 4 2 1) 19 →
  rfree kob LC P14 (upM M22 4 5 1) 20 ∧
  ∀ b24 : Nat,
  ∀ P25 : jP, P25 = pnew P14 20 b24 →
  ∀ M34 : jM, M34 = upM (zM (upM M22 4 5 1) 20) 4 6 1 →
  rfree kob LC P25 M34 21 ∧
  ∀ b36 : Nat,
  ∀ P37 : jP, P37 = pnew P25 21 b36 →
  ∀ N47 : jN, N47 = zN (zN (zN (zN N 18) 19) 20) 21 →
  rfree kob LC P37 (upM (zM M34 21) 4 7 1) 22 ∧
  ∀ b49 : Nat,
  ∀ P50 : jP, P50 = pnew P37 22 b49 →
  ∀ M61 : jM, M61 = zM (upM (zM M34 21) 4 7 1) 22 →
  rfree kob LC P50 (upM M61 4 8 1) 128 ∧
  ∀ b63 : Nat,
  ∀ P64 : jP, P64 = pnew P50 128 b63 →
  w_X2_init P64 128 (zM (upM M61 4 8 1) 128) (zN (zN N47 22) 128) (fun P76 M77 N78 =>
  ∀ M91 : jM, M91 = upM (upM M77 4 9 (nI 128)) 4 0 1 →
  Q P76 (upM M91 4 1 a2) N78)
set_option maxRecDepth 20000 in
theorem c_X7_init (l : Launch) (P : jP) (a2 : Int32) (M : jM) (N : jN) (Q : jP → jM → jN → Prop) (h : w_X7_init P a2 M N Q) : jC l yX7_init cX7_init 3 none rm_X7_init LK [.ref (P.1 4), .ref (P.1 3), .int a2] P M N (jqp P Q) := by
  refine jC_of (by decide +kernel) [(0, .ref (P.1 4)), (1, .ref (P.1 3)), (2, .int a2)] (Nat.le_of_ble_eq_true rfl) rfl (fun X o  => ?_)
  obtain ⟨E, hE⟩ : ∃ E, E = jE X rm_X7_init (jqp P Q) := ⟨_, rfl⟩
  rw [← hE]
  unfold w_X7_init at h
  obtain ⟨hp1, h⟩ := h
  obtain ⟨hp2, h⟩ := h
  refine j_aload_n o dX7_init_0 rfl ?_
  refine j_objInit o io_X7_3 ⟨Nat.le_of_ble_eq_true rfl, Nat.le_of_ble_eq_true rfl⟩ dX7_init_1 ?_
  refine j_aload_n o dX7_init_4 rfl ?_
  refine j_sipush o (v := 160) dX7_init_5 rfl ?_
  obtain ⟨hf3, h⟩ := h
  refine r_newarr (g := 18) (ti := 0) (nn := 160) (B := 160) (atype := .int) (ty := .int) (a0 := (160, .inl (fun _ => 0))) o rfl (fun _ => rfl) (fun _ _ h => h) (fun _ => rfl) (iz_int _ List.mem_cons_self) rfl (Nat.le_refl _) (Nat.le_of_ble_eq_true rfl) (Nat.le_of_ble_eq_true rfl) hf3.hold (fun a tA e he => rnew_ar rfl rfl he) ⟨Nat.le_of_ble_eq_true rfl, Nat.le_of_ble_eq_true rfl⟩ dX7_init_8 (fun b4 => ?_)
  obtain ⟨P5, hP6⟩ : ∃ P9, P9 = pnew P 18 b4 := ⟨_, rfl⟩
  rw [← hP6]
  replace h := h b4 P5 hP6
  have hx7 : Pext P P5 := (by rw [hP6]; exact Pext.new hf3.1)
  have hp8 : P5.2.1 4 = true := (hx7.1 _ hp1).1
  have hp9 : P5.2.1 3 = true := (hx7.1 _ hp2).1
  have hp10 : P5.2.1 18 = true := (by rw [hP6]; exact (pnew_at _ _ _).1)
  have hp10a : P5.1 18 = b4 := (show P5.1 18 = b4 by rw [hP6]; exact (pnew_at _ _ _).2)
  refine j_conv (lo' := [(0, .ref (P5.1 4)), (1, .ref (P5.1 3)), (2, .int a2)]) (st' := [.ref (P5.1 18), .ref (P5.1 4)]) (by rw [(hx7.1 4 hp1).2, (hx7.1 3 hp2).2] <;> rfl) (by rw [(hx7.1 4 hp1).2, hp10a] <;> rfl) ?_
  have hw11 : Pext P P5 := hx7
  refine r_putF (g := 4) (slot := 2) (x := 1) (ci := 7) (ty := .array .int) o hp8 rfl rfl (rfv_r (by decide)) rfl jin_X7 tyX7_ok nmX7 (by decide) rfl rfl rfl rfl jf_X7_9 (by decide +kernel) rfl rfl dX7_init_10 ?_
  refine j_aload_n o dX7_init_13 rfl ?_
  refine j_bipush o (v := 12) dX7_init_14 rfl ?_
  obtain ⟨hf12, h⟩ := h
  refine r_newarr (g := 19) (ti := 0) (nn := 12) (B := 12) (atype := .int) (ty := .int) (a0 := (12, .inl (fun _ => 0))) o rfl (fun _ => rfl) (fun _ _ h => h) (fun _ => rfl) (iz_int _ List.mem_cons_self) rfl (Nat.le_refl _) (Nat.le_of_ble_eq_true rfl) (Nat.le_of_ble_eq_true rfl) hf12.hold (fun a tA e he => rnew_ar rfl rfl he) ⟨Nat.le_of_ble_eq_true rfl, Nat.le_of_ble_eq_true rfl⟩ dX7_init_16 (fun b13 => ?_)
  obtain ⟨P14, hP15⟩ : ∃ P9, P9 = pnew P5 19 b13 := ⟨_, rfl⟩
  rw [← hP15]
  replace h := h b13 P14 hP15
  have hx16 : Pext P5 P14 := (by rw [hP15]; exact Pext.new hf12.1)
  have hp17 : P14.2.1 4 = true := (hx16.1 _ hp8).1
  have hp18 : P14.2.1 3 = true := (hx16.1 _ hp9).1
  have hp19 : P14.2.1 18 = true := (hx16.1 _ hp10).1
  have hp20 : P14.2.1 19 = true := (by rw [hP15]; exact (pnew_at _ _ _).1)
  have hp20a : P14.1 19 = b13 := (show P14.1 19 = b13 by rw [hP15]; exact (pnew_at _ _ _).2)
  refine j_conv (lo' := [(0, .ref (P14.1 4)), (1, .ref (P14.1 3)), (2, .int a2)]) (st' := [.ref (P14.1 19), .ref (P14.1 4)]) (by rw [(hx16.1 4 hp8).2, (hx16.1 3 hp9).2] <;> rfl) (by rw [(hx16.1 4 hp8).2, hp20a] <;> rfl) ?_
  have hw21 : Pext P P14 := hw11.trans hx16
  refine j_nameM (fun M22 hM22 => ?_)
  replace h := h M22 hM22
  refine r_putF (g := 4) (slot := 5) (x := 1) (ci := 7) (ty := .array .int) o hp17 rfl rfl (rfv_r (by decide)) rfl jin_X7 tyX7_ok nmX7 (by decide) rfl rfl rfl rfl jf_X7_15 (by decide +kernel) rfl rfl dX7_init_18 ?_
  refine j_aload_n o dX7_init_21 rfl ?_
  refine j_bipush o (v := 12) dX7_init_22 rfl ?_
  obtain ⟨hf23, h⟩ := h
  refine r_newarr (g := 20) (ti := 0) (nn := 12) (B := 12) (atype := .int) (ty := .int) (a0 := (12, .inl (fun _ => 0))) o rfl (fun _ => rfl) (fun _ _ h => h) (fun _ => rfl) (iz_int _ List.mem_cons_self) rfl (Nat.le_refl _) (Nat.le_of_ble_eq_true rfl) (Nat.le_of_ble_eq_true rfl) hf23.hold (fun a tA e he => rnew_ar rfl rfl he) ⟨Nat.le_of_ble_eq_true rfl, Nat.le_of_ble_eq_true rfl⟩ dX7_init_24 (fun b24 => ?_)
  obtain ⟨P25, hP26⟩ : ∃ P9, P9 = pnew P14 20 b24 := ⟨_, rfl⟩
  rw [← hP26]
  replace h := h b24 P25 hP26
  have hx27 : Pext P14 P25 := (by rw [hP26]; exact Pext.new hf23.1)
  have hp28 : P25.2.1 4 = true := (hx27.1 _ hp17).1
  have hp29 : P25.2.1 3 = true := (hx27.1 _ hp18).1
  have hp30 : P25.2.1 18 = true := (hx27.1 _ hp19).1
  have hp31 : P25.2.1 19 = true := (hx27.1 _ hp20).1
  have hp32 : P25.2.1 20 = true := (by rw [hP26]; exact (pnew_at _ _ _).1)
  have hp32a : P25.1 20 = b24 := (show P25.1 20 = b24 by rw [hP26]; exact (pnew_at _ _ _).2)
  refine j_conv (lo' := [(0, .ref (P25.1 4)), (1, .ref (P25.1 3)), (2, .int a2)]) (st' := [.ref (P25.1 20), .ref (P25.1 4)]) (by rw [(hx27.1 4 hp17).2, (hx27.1 3 hp18).2] <;> rfl) (by rw [(hx27.1 4 hp17).2, hp32a] <;> rfl) ?_
  have hw33 : Pext P P25 := hw21.trans hx27
  refine r_putF (g := 4) (slot := 6) (x := 1) (ci := 7) (ty := .array .int) o hp28 rfl rfl (rfv_r (by decide)) rfl jin_X7 tyX7_ok nmX7 (by decide) rfl rfl rfl rfl jf_X7_18 (by decide +kernel) rfl rfl dX7_init_26 ?_
  refine j_nameM (fun M34 hM34 => ?_)
  replace h := h M34 hM34
  refine j_aload_n o dX7_init_29 rfl ?_
  refine j_bipush o (v := 12) dX7_init_30 rfl ?_
  obtain ⟨hf35, h⟩ := h
  refine r_newarr (g := 21) (ti := 0) (nn := 12) (B := 12) (atype := .int) (ty := .int) (a0 := (12, .inl (fun _ => 0))) o rfl (fun _ => rfl) (fun _ _ h => h) (fun _ => rfl) (iz_int _ List.mem_cons_self) rfl (Nat.le_refl _) (Nat.le_of_ble_eq_true rfl) (Nat.le_of_ble_eq_true rfl) hf35.hold (fun a tA e he => rnew_ar rfl rfl he) ⟨Nat.le_of_ble_eq_true rfl, Nat.le_of_ble_eq_true rfl⟩ dX7_init_32 (fun b36 => ?_)
  obtain ⟨P37, hP38⟩ : ∃ P9, P9 = pnew P25 21 b36 := ⟨_, rfl⟩
  rw [← hP38]
  replace h := h b36 P37 hP38
  have hx39 : Pext P25 P37 := (by rw [hP38]; exact Pext.new hf35.1)
  have hp40 : P37.2.1 4 = true := (hx39.1 _ hp28).1
  have hp41 : P37.2.1 3 = true := (hx39.1 _ hp29).1
  have hp42 : P37.2.1 18 = true := (hx39.1 _ hp30).1
  have hp43 : P37.2.1 19 = true := (hx39.1 _ hp31).1
  have hp44 : P37.2.1 20 = true := (hx39.1 _ hp32).1
  have hp45 : P37.2.1 21 = true := (by rw [hP38]; exact (pnew_at _ _ _).1)
  have hp45a : P37.1 21 = b36 := (show P37.1 21 = b36 by rw [hP38]; exact (pnew_at _ _ _).2)
  refine j_conv (lo' := [(0, .ref (P37.1 4)), (1, .ref (P37.1 3)), (2, .int a2)]) (st' := [.ref (P37.1 21), .ref (P37.1 4)]) (by rw [(hx39.1 4 hp28).2, (hx39.1 3 hp29).2] <;> rfl) (by rw [(hx39.1 4 hp28).2, hp45a] <;> rfl) ?_
  have hw46 : Pext P P37 := hw33.trans hx39
  refine j_nameN (fun N47 hN47 => ?_)
  replace h := h N47 hN47
  refine r_putF (g := 4) (slot := 7) (x := 1) (ci := 7) (ty := .array .int) o hp40 rfl rfl (rfv_r (by decide)) rfl jin_X7 tyX7_ok nmX7 (by decide) rfl rfl rfl rfl jf_X7_21 (by decide +kernel) rfl rfl dX7_init_34 ?_
  refine j_aload_n o dX7_init_37 rfl ?_
  refine j_bipush o (v := 12) dX7_init_38 rfl ?_
  obtain ⟨hf48, h⟩ := h
  refine r_newarr (g := 22) (ti := 0) (nn := 12) (B := 12) (atype := .int) (ty := .int) (a0 := (12, .inl (fun _ => 0))) o rfl (fun _ => rfl) (fun _ _ h => h) (fun _ => rfl) (iz_int _ List.mem_cons_self) rfl (Nat.le_refl _) (Nat.le_of_ble_eq_true rfl) (Nat.le_of_ble_eq_true rfl) hf48.hold (fun a tA e he => rnew_ar rfl rfl he) ⟨Nat.le_of_ble_eq_true rfl, Nat.le_of_ble_eq_true rfl⟩ dX7_init_40 (fun b49 => ?_)
  obtain ⟨P50, hP51⟩ : ∃ P9, P9 = pnew P37 22 b49 := ⟨_, rfl⟩
  rw [← hP51]
  replace h := h b49 P50 hP51
  have hx52 : Pext P37 P50 := (by rw [hP51]; exact Pext.new hf48.1)
  have hp53 : P50.2.1 4 = true := (hx52.1 _ hp40).1
  have hp54 : P50.2.1 3 = true := (hx52.1 _ hp41).1
  have hp55 : P50.2.1 18 = true := (hx52.1 _ hp42).1
  have hp56 : P50.2.1 19 = true := (hx52.1 _ hp43).1
  have hp57 : P50.2.1 20 = true := (hx52.1 _ hp44).1
  have hp58 : P50.2.1 21 = true := (hx52.1 _ hp45).1
  have hp59 : P50.2.1 22 = true := (by rw [hP51]; exact (pnew_at _ _ _).1)
  have hp59a : P50.1 22 = b49 := (show P50.1 22 = b49 by rw [hP51]; exact (pnew_at _ _ _).2)
  refine j_conv (lo' := [(0, .ref (P50.1 4)), (1, .ref (P50.1 3)), (2, .int a2)]) (st' := [.ref (P50.1 22), .ref (P50.1 4)]) (by rw [(hx52.1 4 hp40).2, (hx52.1 3 hp41).2] <;> rfl) (by rw [(hx52.1 4 hp40).2, hp59a] <;> rfl) ?_
  have hw60 : Pext P P50 := hw46.trans hx52
  refine j_nameM (fun M61 hM61 => ?_)
  replace h := h M61 hM61
  refine r_putF (g := 4) (slot := 8) (x := 1) (ci := 7) (ty := .array .int) o hp53 rfl rfl (rfv_r (by decide)) rfl jin_X7 tyX7_ok nmX7 (by decide) rfl rfl rfl rfl jf_X7_24 (by decide +kernel) rfl rfl dX7_init_42 ?_
  refine j_aload_n o dX7_init_45 rfl ?_
  obtain ⟨hf62, h⟩ := h
  refine r_new (g := 128) (ci := 2) (fs := [.int 0, .null, .null, .null]) o rfl jin_X2 tyX2_ok iw_X7_27 (fun j hj => by rcases (show j = 0 ∨ j = 1 ∨ j = 2 ∨ j = 3 by omega) with rfl | rfl | rfl | rfl <;> rfl) hf62.hold (fun a tA e he => rnew_ob rfl rfl he) ⟨Nat.le_of_ble_eq_true rfl, Nat.le_of_ble_eq_true rfl⟩ dX7_init_46 (fun b63 => ?_)
  obtain ⟨P64, hP65⟩ : ∃ P9, P9 = pnew P50 128 b63 := ⟨_, rfl⟩
  rw [← hP65]
  replace h := h b63 P64 hP65
  have hx66 : Pext P50 P64 := (by rw [hP65]; exact Pext.new hf62.1)
  have hp67 : P64.2.1 4 = true := (hx66.1 _ hp53).1
  have hp68 : P64.2.1 3 = true := (hx66.1 _ hp54).1
  have hp69 : P64.2.1 18 = true := (hx66.1 _ hp55).1
  have hp70 : P64.2.1 19 = true := (hx66.1 _ hp56).1
  have hp71 : P64.2.1 20 = true := (hx66.1 _ hp57).1
  have hp72 : P64.2.1 21 = true := (hx66.1 _ hp58).1
  have hp73 : P64.2.1 22 = true := (hx66.1 _ hp59).1
  have hp74 : P64.2.1 128 = true := (by rw [hP65]; exact (pnew_at _ _ _).1)
  have hp74a : P64.1 128 = b63 := (show P64.1 128 = b63 by rw [hP65]; exact (pnew_at _ _ _).2)
  refine j_conv (lo' := [(0, .ref (P64.1 4)), (1, .ref (P64.1 3)), (2, .int a2)]) (st' := [.ref (P64.1 128), .ref (P64.1 4)]) (by rw [(hx66.1 4 hp53).2, (hx66.1 3 hp54).2] <;> rfl) (by rw [(hx66.1 4 hp53).2, hp74a] <;> rfl) ?_
  have hw75 : Pext P P64 := hw60.trans hx66
  refine j_dup o dX7_init_49 rfl ?_
  refine j_callIN o (c_X2_init l P64 128 (zM (upM M61 4 8 1) 128) (zN (zN N47 22) 128) _ h) dX7_init_50 rfl ic_X7_29 iq_X7_29 (jNm_2 ij_X2_init rfl) ⟨⟨Nat.le_of_ble_eq_true rfl, Nat.le_of_ble_eq_true rfl⟩, Nat.le_of_ble_eq_true rfl, Nat.le_of_ble_eq_true rfl⟩ (Nat.le_of_ble_eq_true rfl) rfl (fun v9 P76 M77 N78 hq79 => ?_)
  obtain ⟨rfl, hx80, h⟩ := hq79
  have hx81 : Pext P64 P76 := hx80
  have hp82 : P76.2.1 4 = true := (hx81.1 _ hp67).1
  have hp83 : P76.2.1 3 = true := (hx81.1 _ hp68).1
  have hp84 : P76.2.1 18 = true := (hx81.1 _ hp69).1
  have hp85 : P76.2.1 19 = true := (hx81.1 _ hp70).1
  have hp86 : P76.2.1 20 = true := (hx81.1 _ hp71).1
  have hp87 : P76.2.1 21 = true := (hx81.1 _ hp72).1
  have hp88 : P76.2.1 22 = true := (hx81.1 _ hp73).1
  have hp89 : P76.2.1 128 = true := (hx81.1 _ hp74).1
  refine j_conv (lo' := [(0, .ref (P76.1 4)), (1, .ref (P76.1 3)), (2, .int a2)]) (st' := [.ref (P76.1 128), .ref (P76.1 4)]) (by rw [(hx81.1 4 hp67).2, (hx81.1 3 hp68).2] <;> rfl) (by rw [(hx81.1 4 hp67).2, (hx81.1 128 hp74).2] <;> rfl) ?_
  have hw90 : Pext P P76 := hw75.trans hx81
  refine r_put (g := 4) (slot := 9) (x := nI 128) (ci := 7) (ty := .object "CoalForm$Form") o hp82 rfl rfl (rfv_d (by decide) (by decide)) rfl jin_X7 tyX7_ok nmX7 (by decide) rfl rfl jf_X7_30 (by decide +kernel) rfl rfl dX7_init_53 ?_
  refine j_aload_n o dX7_init_56 rfl ?_
  refine j_aload_n o dX7_init_57 rfl ?_
  refine r_putF (g := 4) (slot := 0) (x := 1) (ci := 7) (ty := .object "CoalForm$Tape") o hp82 rfl rfl (rfv_r (by decide)) rfl jin_X7 tyX7_ok nmX7 (by decide) rfl rfl rfl rfl jf_X7_34 (by decide +kernel) rfl rfl dX7_init_58 ?_
  refine j_nameM (fun M91 hM91 => ?_)
  replace h := h M91 hM91
  refine j_aload_n o dX7_init_61 rfl ?_
  refine j_iload_n o dX7_init_62 rfl ?_
  refine r_putF (g := 4) (slot := 1) (x := a2) (ci := 7) (ty := .int) o hp82 rfl rfl rfv_i rfl jin_X7 tyX7_ok nmX7 (by decide) rfl rfl rfl rfl jf_X7_38 (by decide +kernel) rfl rfl dX7_init_63 ?_
  rw [hE]
  exact j_vret o dX7_init_66 ⟨rfl, hw90, h⟩

abbrev rm_X1_init : Room := { frames := 1, cells := 4, slots := 36971, locals := 40 }
def w_X1_init (P : jP)  (M : jM) (N : jN) (Q : jP → jM → jN → Prop) : Prop :=
  P.2.1 5 = true ∧
  P.2.1 2 = true ∧
  ∀ M3 : jM, M3 = upM (upM M 5 0 1) 5 1 (7 + (if 42 < (((upM M 5 0 1) 2 2) / 4) then (((upM M 5 0 1) 2 2) / 4) else 42)) →
  rfree kob LC P M3 23 ∧
  ((M3 5 1) * (M3 5 1)) = nI (P.2.2 3) ∧
  P.2.2 3 ≤ 18225 ∧
  ∀ b7 : Nat,
  ∀ P8 : jP, P8 = pnew P 23 b7 →
  rfree kob LC P8 (upM (zM M3 23) 5 2 1) 24 ∧
  (((upM (zM M3 23) 5 2 1) 5 1) * ((upM (zM M3 23) 5 2 1) 5 1)) = nI (P8.2.2 3) ∧
  P8.2.2 3 ≤ 18225 ∧
  ∀ b18 : Nat,
  ∀ P19 : jP, P19 = pnew P8 24 b18 →
  ∀ M27 : jM, M27 = zM (upM (zM M3 23) 5 2 1) 24 →
  rfree kob LC P19 (upM M27 5 3 1) 25 ∧
  ((upM M27 5 3 1) 2 2) = nI (P19.2.2 1) ∧
  P19.2.2 1 ≤ 512 ∧
  ∀ b31 : Nat,
  ∀ P32 : jP, P32 = pnew P19 25 b31 →
  ∀ M41 : jM, M41 = upM (zM (upM M27 5 3 1) 25) 5 4 1 →
  rfree kob LC P32 M41 26 ∧
  (M41 2 0) = nI (P32.2.2 0) ∧
  P32.2.2 0 ≤ 9 ∧
  ∀ b45 : Nat,
  ∀ P46 : jP, P46 = pnew P32 26 b45 →
  ∀ N56 : jN, N56 = zN (zN (zN (zN N 23) 24) 25) 26 →
  Q P46 (upM (zM M41 26) 5 5 1) N56
set_option maxRecDepth 20000 in
theorem c_X1_init (l : Launch) (P : jP)  (M : jM) (N : jN) (Q : jP → jM → jN → Prop) (h : w_X1_init P M N Q) : jC l yX1_init cX1_init 2 none rm_X1_init LK [.ref (P.1 5), .ref (P.1 2)] P M N (jqp P Q) := by
  refine jC_of (by decide +kernel) [(0, .ref (P.1 5)), (1, .ref (P.1 2))] (Nat.le_of_ble_eq_true rfl) rfl (fun X o  => ?_)
  obtain ⟨E, hE⟩ : ∃ E, E = jE X rm_X1_init (jqp P Q) := ⟨_, rfl⟩
  rw [← hE]
  unfold w_X1_init at h
  obtain ⟨hp1, h⟩ := h
  obtain ⟨hp2, h⟩ := h
  refine j_aload_n o dX1_init_0 rfl ?_
  refine j_objInit o io_X1_3 ⟨Nat.le_of_ble_eq_true rfl, Nat.le_of_ble_eq_true rfl⟩ dX1_init_1 ?_
  refine j_aload_n o dX1_init_4 rfl ?_
  refine j_aload_n o dX1_init_5 rfl ?_
  refine r_putF (g := 5) (slot := 0) (x := 1) (ci := 1) (ty := .object "CoalForm$Grid") o hp1 rfl rfl (rfv_r (by decide)) rfl jin_X1 tyX1_ok nmX1 (by decide) rfl rfl rfl rfl jf_X1_9 (by decide +kernel) rfl rfl dX1_init_6 ?_
  refine j_aload_n o dX1_init_9 rfl ?_
  refine j_bipush o (v := 7) dX1_init_10 rfl ?_
  refine j_bipush o (v := 42) dX1_init_12 rfl ?_
  refine j_aload_n o dX1_init_14 rfl ?_
  refine r_get (g := 2) (slot := 2) (ci := 3) (v := .int ((upM M 5 0 1) 2 2)) o hp2 rfl rfl rfl rfl jin_X3 (by decide) rfl jf_X1_17 dX1_init_15 ?_
  refine j_iconst o (v := 4) dX1_init_18 rfl ?_
  refine j_idiv o dX1_init_19 (by decide) ?_
  refine j_mmax o dX1_init_20 jc_X1_23 rfl ?_
  refine j_iadd o dX1_init_23 ?_
  refine r_putF (g := 5) (slot := 1) (x := 7 + (if 42 < (((upM M 5 0 1) 2 2) / 4) then (((upM M 5 0 1) 2 2) / 4) else 42)) (ci := 1) (ty := .int) o hp1 rfl rfl rfv_i rfl jin_X1 tyX1_ok nmX1 (by decide) rfl rfl rfl rfl jf_X1_29 (by decide +kernel) rfl rfl dX1_init_24 ?_
  refine j_nameM (fun M3 hM3 => ?_)
  replace h := h M3 hM3
  refine j_aload_n o dX1_init_27 rfl ?_
  refine j_aload_n o dX1_init_28 rfl ?_
  refine r_get (g := 5) (slot := 1) (ci := 1) (v := .int (M3 5 1)) o hp1 rfl rfl rfl rfl jin_X1 (by decide) rfl jf_X1_29 dX1_init_29 ?_
  refine j_aload_n o dX1_init_32 rfl ?_
  refine r_get (g := 5) (slot := 1) (ci := 1) (v := .int (M3 5 1)) o hp1 rfl rfl rfl rfl jin_X1 (by decide) rfl jf_X1_29 dX1_init_33 ?_
  refine j_imul o dX1_init_36 ?_
  obtain ⟨hf4, h⟩ := h
  obtain ⟨hn5, h⟩ := h
  obtain ⟨hb6, h⟩ := h
  refine r_newarr (g := 23) (ti := 0) (nn := P.2.2 3) (B := 18225) (atype := .int) (ty := .int) (a0 := (P.2.2 3, .inl (fun _ => 0))) o rfl (fun _ => rfl) (fun _ _ h => h) (fun _ => rfl) (iz_int _ List.mem_cons_self) hn5 hb6 (Nat.le_of_ble_eq_true rfl) (Nat.le_of_ble_eq_true rfl) hf4.hold (fun a tA e he => rnew_ar rfl rfl he) ⟨Nat.le_of_ble_eq_true rfl, Nat.le_of_ble_eq_true rfl⟩ dX1_init_37 (fun b7 => ?_)
  obtain ⟨P8, hP9⟩ : ∃ P9, P9 = pnew P 23 b7 := ⟨_, rfl⟩
  rw [← hP9]
  replace h := h b7 P8 hP9
  have hx10 : Pext P P8 := (by rw [hP9]; exact Pext.new hf4.1)
  have hp11 : P8.2.1 5 = true := (hx10.1 _ hp1).1
  have hp12 : P8.2.1 2 = true := (hx10.1 _ hp2).1
  have hp13 : P8.2.1 23 = true := (by rw [hP9]; exact (pnew_at _ _ _).1)
  have hp13a : P8.1 23 = b7 := (show P8.1 23 = b7 by rw [hP9]; exact (pnew_at _ _ _).2)
  refine j_conv (lo' := [(0, .ref (P8.1 5)), (1, .ref (P8.1 2))]) (st' := [.ref (P8.1 23), .ref (P8.1 5)]) (by rw [(hx10.1 5 hp1).2, (hx10.1 2 hp2).2] <;> rfl) (by rw [(hx10.1 5 hp1).2, hp13a] <;> rfl) ?_
  have hw14 : Pext P P8 := hx10
  refine r_putF (g := 5) (slot := 2) (x := 1) (ci := 1) (ty := .array .int) o hp11 rfl rfl (rfv_r (by decide)) rfl jin_X1 tyX1_ok nmX1 (by decide) rfl rfl rfl rfl jf_X1_32 (by decide +kernel) rfl rfl dX1_init_39 ?_
  refine j_aload_n o dX1_init_42 rfl ?_
  refine j_aload_n o dX1_init_43 rfl ?_
  refine r_get (g := 5) (slot := 1) (ci := 1) (v := .int ((upM (zM M3 23) 5 2 1) 5 1)) o hp11 rfl rfl rfl rfl jin_X1 (by decide) rfl jf_X1_29 dX1_init_44 ?_
  refine j_aload_n o dX1_init_47 rfl ?_
  refine r_get (g := 5) (slot := 1) (ci := 1) (v := .int ((upM (zM M3 23) 5 2 1) 5 1)) o hp11 rfl rfl rfl rfl jin_X1 (by decide) rfl jf_X1_29 dX1_init_48 ?_
  refine j_imul o dX1_init_51 ?_
  obtain ⟨hf15, h⟩ := h
  obtain ⟨hn16, h⟩ := h
  obtain ⟨hb17, h⟩ := h
  refine r_newarr (g := 24) (ti := 0) (nn := P8.2.2 3) (B := 18225) (atype := .int) (ty := .int) (a0 := (P8.2.2 3, .inl (fun _ => 0))) o rfl (fun _ => rfl) (fun _ _ h => h) (fun _ => rfl) (iz_int _ List.mem_cons_self) hn16 hb17 (Nat.le_of_ble_eq_true rfl) (Nat.le_of_ble_eq_true rfl) hf15.hold (fun a tA e he => rnew_ar rfl rfl he) ⟨Nat.le_of_ble_eq_true rfl, Nat.le_of_ble_eq_true rfl⟩ dX1_init_52 (fun b18 => ?_)
  obtain ⟨P19, hP20⟩ : ∃ P9, P9 = pnew P8 24 b18 := ⟨_, rfl⟩
  rw [← hP20]
  replace h := h b18 P19 hP20
  have hx21 : Pext P8 P19 := (by rw [hP20]; exact Pext.new hf15.1)
  have hp22 : P19.2.1 5 = true := (hx21.1 _ hp11).1
  have hp23 : P19.2.1 2 = true := (hx21.1 _ hp12).1
  have hp24 : P19.2.1 23 = true := (hx21.1 _ hp13).1
  have hp25 : P19.2.1 24 = true := (by rw [hP20]; exact (pnew_at _ _ _).1)
  have hp25a : P19.1 24 = b18 := (show P19.1 24 = b18 by rw [hP20]; exact (pnew_at _ _ _).2)
  refine j_conv (lo' := [(0, .ref (P19.1 5)), (1, .ref (P19.1 2))]) (st' := [.ref (P19.1 24), .ref (P19.1 5)]) (by rw [(hx21.1 5 hp11).2, (hx21.1 2 hp12).2] <;> rfl) (by rw [(hx21.1 5 hp11).2, hp25a] <;> rfl) ?_
  have hw26 : Pext P P19 := hw14.trans hx21
  refine j_nameM (fun M27 hM27 => ?_)
  replace h := h M27 hM27
  refine r_putF (g := 5) (slot := 3) (x := 1) (ci := 1) (ty := .array .int) o hp22 rfl rfl (rfv_r (by decide)) rfl jin_X1 tyX1_ok nmX1 (by decide) rfl rfl rfl rfl jf_X1_36 (by decide +kernel) rfl rfl dX1_init_54 ?_
  refine j_aload_n o dX1_init_57 rfl ?_
  refine j_aload_n o dX1_init_58 rfl ?_
  refine r_get (g := 2) (slot := 2) (ci := 3) (v := .int ((upM M27 5 3 1) 2 2)) o hp23 rfl rfl rfl rfl jin_X3 (by decide) rfl jf_X1_17 dX1_init_59 ?_
  obtain ⟨hf28, h⟩ := h
  obtain ⟨hn29, h⟩ := h
  obtain ⟨hb30, h⟩ := h
  refine r_newarr (g := 25) (ti := 0) (nn := P19.2.2 1) (B := 512) (atype := .int) (ty := .int) (a0 := (P19.2.2 1, .inl (fun _ => 0))) o rfl (fun _ => rfl) (fun _ _ h => h) (fun _ => rfl) (iz_int _ List.mem_cons_self) hn29 hb30 (Nat.le_of_ble_eq_true rfl) (Nat.le_of_ble_eq_true rfl) hf28.hold (fun a tA e he => rnew_ar rfl rfl he) ⟨Nat.le_of_ble_eq_true rfl, Nat.le_of_ble_eq_true rfl⟩ dX1_init_62 (fun b31 => ?_)
  obtain ⟨P32, hP33⟩ : ∃ P9, P9 = pnew P19 25 b31 := ⟨_, rfl⟩
  rw [← hP33]
  replace h := h b31 P32 hP33
  have hx34 : Pext P19 P32 := (by rw [hP33]; exact Pext.new hf28.1)
  have hp35 : P32.2.1 5 = true := (hx34.1 _ hp22).1
  have hp36 : P32.2.1 2 = true := (hx34.1 _ hp23).1
  have hp37 : P32.2.1 23 = true := (hx34.1 _ hp24).1
  have hp38 : P32.2.1 24 = true := (hx34.1 _ hp25).1
  have hp39 : P32.2.1 25 = true := (by rw [hP33]; exact (pnew_at _ _ _).1)
  have hp39a : P32.1 25 = b31 := (show P32.1 25 = b31 by rw [hP33]; exact (pnew_at _ _ _).2)
  refine j_conv (lo' := [(0, .ref (P32.1 5)), (1, .ref (P32.1 2))]) (st' := [.ref (P32.1 25), .ref (P32.1 5)]) (by rw [(hx34.1 5 hp22).2, (hx34.1 2 hp23).2] <;> rfl) (by rw [(hx34.1 5 hp22).2, hp39a] <;> rfl) ?_
  have hw40 : Pext P P32 := hw26.trans hx34
  refine r_putF (g := 5) (slot := 4) (x := 1) (ci := 1) (ty := .array .int) o hp35 rfl rfl (rfv_r (by decide)) rfl jin_X1 tyX1_ok nmX1 (by decide) rfl rfl rfl rfl jf_X1_39 (by decide +kernel) rfl rfl dX1_init_64 ?_
  refine j_nameM (fun M41 hM41 => ?_)
  replace h := h M41 hM41
  refine j_aload_n o dX1_init_67 rfl ?_
  refine j_aload_n o dX1_init_68 rfl ?_
  refine r_get (g := 2) (slot := 0) (ci := 3) (v := .int (M41 2 0)) o hp36 rfl rfl rfl rfl jin_X3 (by decide) rfl jf_X1_42 dX1_init_69 ?_
  obtain ⟨hf42, h⟩ := h
  obtain ⟨hn43, h⟩ := h
  obtain ⟨hb44, h⟩ := h
  refine r_newarr (g := 26) (ti := 0) (nn := P32.2.2 0) (B := 9) (atype := .int) (ty := .int) (a0 := (P32.2.2 0, .inl (fun _ => 0))) o rfl (fun _ => rfl) (fun _ _ h => h) (fun _ => rfl) (iz_int _ List.mem_cons_self) hn43 hb44 (Nat.le_of_ble_eq_true rfl) (Nat.le_of_ble_eq_true rfl) hf42.hold (fun a tA e he => rnew_ar rfl rfl he) ⟨Nat.le_of_ble_eq_true rfl, Nat.le_of_ble_eq_true rfl⟩ dX1_init_72 (fun b45 => ?_)
  obtain ⟨P46, hP47⟩ : ∃ P9, P9 = pnew P32 26 b45 := ⟨_, rfl⟩
  rw [← hP47]
  replace h := h b45 P46 hP47
  have hx48 : Pext P32 P46 := (by rw [hP47]; exact Pext.new hf42.1)
  have hp49 : P46.2.1 5 = true := (hx48.1 _ hp35).1
  have hp50 : P46.2.1 2 = true := (hx48.1 _ hp36).1
  have hp51 : P46.2.1 23 = true := (hx48.1 _ hp37).1
  have hp52 : P46.2.1 24 = true := (hx48.1 _ hp38).1
  have hp53 : P46.2.1 25 = true := (hx48.1 _ hp39).1
  have hp54 : P46.2.1 26 = true := (by rw [hP47]; exact (pnew_at _ _ _).1)
  have hp54a : P46.1 26 = b45 := (show P46.1 26 = b45 by rw [hP47]; exact (pnew_at _ _ _).2)
  refine j_conv (lo' := [(0, .ref (P46.1 5)), (1, .ref (P46.1 2))]) (st' := [.ref (P46.1 26), .ref (P46.1 5)]) (by rw [(hx48.1 5 hp35).2, (hx48.1 2 hp36).2] <;> rfl) (by rw [(hx48.1 5 hp35).2, hp54a] <;> rfl) ?_
  have hw55 : Pext P P46 := hw40.trans hx48
  refine j_nameN (fun N56 hN56 => ?_)
  replace h := h N56 hN56
  refine r_putF (g := 5) (slot := 5) (x := 1) (ci := 1) (ty := .array .int) o hp49 rfl rfl (rfv_r (by decide)) rfl jin_X1 tyX1_ok nmX1 (by decide) rfl rfl rfl rfl jf_X1_45 (by decide +kernel) rfl rfl dX1_init_74 ?_
  rw [hE]
  exact j_vret o dX1_init_77 ⟨rfl, hw55, h⟩

abbrev rm_X9_init : Room := { frames := 1, cells := 2, slots := 18, locals := 24 }
def w_X9_init (P : jP) (a1 : Int32) (M : jM) (N : jN) (Q : jP → jM → jN → Prop) : Prop :=
  P.2.1 6 = true ∧
  rfree kob LC P (upM M 6 0 a1) 27 ∧
  a1 = nI (P.2.2 0) ∧
  P.2.2 0 ≤ 9 ∧
  ∀ b5 : Nat,
  ∀ P6 : jP, P6 = pnew P 27 b5 →
  ∀ M12 : jM, M12 = upM (zM (upM M 6 0 a1) 27) 6 1 1 →
  rfree kob LC P6 M12 28 ∧
  a1 = nI (P6.2.2 0) ∧
  P6.2.2 0 ≤ 9 ∧
  ∀ b16 : Nat,
  ∀ P17 : jP, P17 = pnew P6 28 b16 →
  ∀ R25 : Int32 → jM → Prop, (∀ (x24 : Int32) (M25 : jM), (
   (a1 ≤ x24 → (
    Q P17 M25 (zN (zN N 27) 28)
   )) ∧ (¬ a1 ≤ x24 → (
    ¬ M25 6 1 = 0 ∧
    vp_in x24 (P17.2.2 0) ∧
    ∀ M29 : jM, M29 = upM M25 27 x24.toNatClampNeg 1 →
    R25 (x24 + 1) M29
   ))
  ) → R25 x24 M25) →
  R25 0 (upM (zM M12 28) 6 2 1)
set_option maxRecDepth 20000 in
theorem c_X9_init (l : Launch) (P : jP) (a1 : Int32) (M : jM) (N : jN) (Q : jP → jM → jN → Prop) (h : w_X9_init P a1 M N Q) : jC l yX9_init cX9_init 3 none rm_X9_init LK [.ref (P.1 6), .int a1] P M N (jqp P Q) := by
  refine jC_of (by decide +kernel) [(0, .ref (P.1 6)), (1, .int a1)] (Nat.le_of_ble_eq_true rfl) rfl (fun X o  => ?_)
  obtain ⟨E, hE⟩ : ∃ E, E = jE X rm_X9_init (jqp P Q) := ⟨_, rfl⟩
  rw [← hE]
  unfold w_X9_init at h
  obtain ⟨hp1, h⟩ := h
  refine j_aload_n o dX9_init_0 rfl ?_
  refine j_objInit o io_X9_3 ⟨Nat.le_of_ble_eq_true rfl, Nat.le_of_ble_eq_true rfl⟩ dX9_init_1 ?_
  refine j_aload_n o dX9_init_4 rfl ?_
  refine j_iload_n o dX9_init_5 rfl ?_
  refine r_putF (g := 6) (slot := 0) (x := a1) (ci := 9) (ty := .int) o hp1 rfl rfl rfv_i rfl jin_X9 tyX9_ok nmX9 (by decide) rfl rfl rfl rfl jf_X9_9 (by decide +kernel) rfl rfl dX9_init_6 ?_
  refine j_aload_n o dX9_init_9 rfl ?_
  refine j_iload_n o dX9_init_10 rfl ?_
  obtain ⟨hf2, h⟩ := h
  obtain ⟨hn3, h⟩ := h
  obtain ⟨hb4, h⟩ := h
  refine r_newarr (g := 27) (ti := 0) (nn := P.2.2 0) (B := 9) (atype := .int) (ty := .int) (a0 := (P.2.2 0, .inl (fun _ => 0))) o rfl (fun _ => rfl) (fun _ _ h => h) (fun _ => rfl) (iz_int _ List.mem_cons_self) hn3 hb4 (Nat.le_of_ble_eq_true rfl) (Nat.le_of_ble_eq_true rfl) hf2.hold (fun a tA e he => rnew_ar rfl rfl he) ⟨Nat.le_of_ble_eq_true rfl, Nat.le_of_ble_eq_true rfl⟩ dX9_init_11 (fun b5 => ?_)
  obtain ⟨P6, hP7⟩ : ∃ P9, P9 = pnew P 27 b5 := ⟨_, rfl⟩
  rw [← hP7]
  replace h := h b5 P6 hP7
  have hx8 : Pext P P6 := (by rw [hP7]; exact Pext.new hf2.1)
  have hp9 : P6.2.1 6 = true := (hx8.1 _ hp1).1
  have hp10 : P6.2.1 27 = true := (by rw [hP7]; exact (pnew_at _ _ _).1)
  have hp10a : P6.1 27 = b5 := (show P6.1 27 = b5 by rw [hP7]; exact (pnew_at _ _ _).2)
  refine j_conv (lo' := [(0, .ref (P6.1 6)), (1, .int a1)]) (st' := [.ref (P6.1 27), .ref (P6.1 6)]) (by rw [(hx8.1 6 hp1).2] <;> rfl) (by rw [(hx8.1 6 hp1).2, hp10a] <;> rfl) ?_
  have hw11 : Pext P P6 := hx8
  refine r_putF (g := 6) (slot := 1) (x := 1) (ci := 9) (ty := .array .int) o hp9 rfl rfl (rfv_r (by decide)) rfl jin_X9 tyX9_ok nmX9 (by decide) rfl rfl rfl rfl jf_X9_15 (by decide +kernel) rfl rfl dX9_init_13 ?_
  refine j_nameM (fun M12 hM12 => ?_)
  replace h := h M12 hM12
  refine j_aload_n o dX9_init_16 rfl ?_
  refine j_iload_n o dX9_init_17 rfl ?_
  obtain ⟨hf13, h⟩ := h
  obtain ⟨hn14, h⟩ := h
  obtain ⟨hb15, h⟩ := h
  refine r_newarr (g := 28) (ti := 0) (nn := P6.2.2 0) (B := 9) (atype := .int) (ty := .int) (a0 := (P6.2.2 0, .inl (fun _ => 0))) o rfl (fun _ => rfl) (fun _ _ h => h) (fun _ => rfl) (iz_int _ List.mem_cons_self) hn14 hb15 (Nat.le_of_ble_eq_true rfl) (Nat.le_of_ble_eq_true rfl) hf13.hold (fun a tA e he => rnew_ar rfl rfl he) ⟨Nat.le_of_ble_eq_true rfl, Nat.le_of_ble_eq_true rfl⟩ dX9_init_18 (fun b16 => ?_)
  obtain ⟨P17, hP18⟩ : ∃ P9, P9 = pnew P6 28 b16 := ⟨_, rfl⟩
  rw [← hP18]
  replace h := h b16 P17 hP18
  have hx19 : Pext P6 P17 := (by rw [hP18]; exact Pext.new hf13.1)
  have hp20 : P17.2.1 6 = true := (hx19.1 _ hp9).1
  have hp21 : P17.2.1 27 = true := (hx19.1 _ hp10).1
  have hp22 : P17.2.1 28 = true := (by rw [hP18]; exact (pnew_at _ _ _).1)
  have hp22a : P17.1 28 = b16 := (show P17.1 28 = b16 by rw [hP18]; exact (pnew_at _ _ _).2)
  refine j_conv (lo' := [(0, .ref (P17.1 6)), (1, .int a1)]) (st' := [.ref (P17.1 28), .ref (P17.1 6)]) (by rw [(hx19.1 6 hp9).2] <;> rfl) (by rw [(hx19.1 6 hp9).2, hp22a] <;> rfl) ?_
  have hw23 : Pext P P17 := hw11.trans hx19
  refine r_putF (g := 6) (slot := 2) (x := 1) (ci := 9) (ty := .array .int) o hp20 rfl rfl (rfv_r (by decide)) rfl jin_X9 tyX9_ok nmX9 (by decide) rfl rfl rfl rfl jf_X9_19 (by decide +kernel) rfl rfl dX9_init_20 ?_
  refine j_iconst o (v := 0) dX9_init_23 rfl ?_
  refine j_istore_n o [(2, .int 0), (0, .ref (P17.1 6)), (1, .int a1)] dX9_init_24 (by decide) rfl ?_
  replace h := h (fun (x24 : Int32) (M25 : jM) => J X P17 M25 (zN (zN N 27) 28) 2 18 E 3 25 [(0, .ref (P17.1 6)), (1, .int a1), (2, .int x24)] []) (by
    intro x24 M25 h
    refine j_iload_n o dX9_init_25 rfl ?_
    refine j_iload_n o dX9_init_26 rfl ?_
    refine j_icmp_ge o (tgt := 43) dX9_init_27 (by decide) (fun c26 => ?_) (fun c26 => ?_)
    · replace h := h.1 c26
      rw [hE]
      exact j_vret o dX9_init_43 ⟨rfl, hw23, h⟩
    · replace h := h.2 c26
      refine j_aload_n o dX9_init_30 rfl ?_
      obtain ⟨hz27, h⟩ := h
      refine r_get (g := 6) (slot := 1) (ci := 9) (v := .ref (P17.1 27)) o hp20 rfl rfl (rfv_r0 (by decide) hz27) rfl jin_X9 (by decide) rfl jf_X9_15 dX9_init_31 ?_
      refine j_iload_n o dX9_init_34 rfl ?_
      refine j_iconst o (v := 1) dX9_init_35 rfl ?_
      obtain ⟨hb28, h⟩ := h
      refine j_iast o (g := 27) (fun tA f h => (LR_ar hp21 rfl tA f h).trans rfl) hb28 dX9_init_36 ?_
      refine j_nameM (fun M29 hM29 => ?_)
      replace h := h M29 hM29
      refine j_iinc o (v := x24 + 1) [(2, .int (x24 + 1)), (0, .ref (P17.1 6)), (1, .int a1)] dX9_init_37 rfl rfl (by decide) rfl ?_
      refine j_goto o (tgt := 25) dX9_init_40 (by decide) ?_
      exact j_pick [1, 2, 0] rfl h)
  exact j_pick [1, 2, 0] rfl h

abbrev rm_X5_init : Room := { frames := 1, cells := 6, slots := 44, locals := 24 }
def w_X5_init (P : jP) (a1 : Int32) (M : jM) (N : jN) (Q : jP → jM → jN → Prop) : Prop :=
  P.2.1 7 = true ∧
  rfree kob LC P M 29 ∧
  ∀ b3 : Nat,
  ∀ P4 : jP, P4 = pnew P 29 b3 →
  ∀ M10 : jM, M10 = upM (upM (zM M 29) 7 2 1) 7 0 a1 →
  mfree P4 M10 ∧
  a1 = nI (P4.2.2 0) ∧
  P4.2.2 0 ≤ 9 ∧
  ∀ b14 : Nat,
  ∀ P15 : jP, P15 = pmul P4 b14 →
  ∀ R28 : Int32 → jM → Prop, (∀ (x22 : Int32) (M23 : jM), (
   (4 ≤ x22 → (
    Q P15 M23 (zN5 (zN N 29))
   )) ∧ (¬ 4 ≤ x22 → (
    ∀ R35 : Int32 → jM → Prop, (∀ (x25 : Int32) (M26 : jM), (
     (a1 ≤ x25 → (
      R28 (x22 + 1) M26
     )) ∧ (¬ a1 ≤ x25 → (
      ¬ M26 7 3 = 0 ∧
      vp_in x22 (4) ∧
      jinK P15 (31 + x22.toNatClampNeg) x25 ∧
      ∀ M31 : jM, M31 = upM M26 (31 + x22.toNatClampNeg) x25.toNatClampNeg 5 →
      R35 (x25 + 1) M31
     ))
    ) → R35 x25 M26) →
    R35 0 M23
   ))
  ) → R28 x22 M23) →
  R28 0 (upM (zM5 M10) 7 3 1)
set_option maxRecDepth 20000 in
theorem c_X5_init (l : Launch) (P : jP) (a1 : Int32) (M : jM) (N : jN) (Q : jP → jM → jN → Prop) (h : w_X5_init P a1 M N Q) : jCZ l yX5_init cX5_init 4 none rm_X5_init LK [.ref (P.1 7), .int a1] P M N (jqp P Q) := by
  refine jC_ofZ (by decide +kernel) [(0, .ref (P.1 7)), (1, .int a1)] (Nat.le_of_ble_eq_true rfl) rfl (fun X o z => ?_)
  obtain ⟨E, hE⟩ : ∃ E, E = jE X rm_X5_init (jqp P Q) := ⟨_, rfl⟩
  rw [← hE]
  unfold w_X5_init at h
  obtain ⟨hp1, h⟩ := h
  refine j_aload_n o dX5_init_0 rfl ?_
  refine j_objInit o io_X5_3 ⟨Nat.le_of_ble_eq_true rfl, Nat.le_of_ble_eq_true rfl⟩ dX5_init_1 ?_
  refine j_aload_n o dX5_init_4 rfl ?_
  refine j_iconst o (v := 4) dX5_init_5 rfl ?_
  obtain ⟨hf2, h⟩ := h
  refine r_newarr (g := 29) (ti := 0) (nn := 4) (B := 4) (atype := .int) (ty := .int) (a0 := (4, .inl (fun _ => 0))) o rfl (fun _ => rfl) (fun _ _ h => h) (fun _ => rfl) (iz_int _ List.mem_cons_self) rfl (Nat.le_refl _) (Nat.le_of_ble_eq_true rfl) (Nat.le_of_ble_eq_true rfl) hf2.hold (fun a tA e he => rnew_ar rfl rfl he) ⟨Nat.le_of_ble_eq_true rfl, Nat.le_of_ble_eq_true rfl⟩ dX5_init_6 (fun b3 => ?_)
  obtain ⟨P4, hP5⟩ : ∃ P9, P9 = pnew P 29 b3 := ⟨_, rfl⟩
  rw [← hP5]
  replace h := h b3 P4 hP5
  have hx6 : Pext P P4 := (by rw [hP5]; exact Pext.new hf2.1)
  have hp7 : P4.2.1 7 = true := (hx6.1 _ hp1).1
  have hp8 : P4.2.1 29 = true := (by rw [hP5]; exact (pnew_at _ _ _).1)
  have hp8a : P4.1 29 = b3 := (show P4.1 29 = b3 by rw [hP5]; exact (pnew_at _ _ _).2)
  refine j_conv (lo' := [(0, .ref (P4.1 7)), (1, .int a1)]) (st' := [.ref (P4.1 29), .ref (P4.1 7)]) (by rw [(hx6.1 7 hp1).2] <;> rfl) (by rw [(hx6.1 7 hp1).2, hp8a] <;> rfl) ?_
  have hw9 : Pext P P4 := hx6
  refine r_putF (g := 7) (slot := 2) (x := 1) (ci := 5) (ty := .array .int) o hp7 rfl rfl (rfv_r (by decide)) rfl jin_X5 tyX5_ok nmX5 (by decide) rfl rfl rfl rfl jf_X5_9 (by decide +kernel) rfl rfl dX5_init_8 ?_
  refine j_aload_n o dX5_init_11 rfl ?_
  refine j_iload_n o dX5_init_12 rfl ?_
  refine r_putF (g := 7) (slot := 0) (x := a1) (ci := 5) (ty := .int) o hp7 rfl rfl rfv_i rfl jin_X5 tyX5_ok nmX5 (by decide) rfl rfl rfl rfl jf_X5_15 (by decide +kernel) rfl rfl dX5_init_13 ?_
  refine j_nameM (fun M10 hM10 => ?_)
  replace h := h M10 hM10
  refine j_aload_n o dX5_init_16 rfl ?_
  refine j_iconst o (v := 4) dX5_init_17 rfl ?_
  refine j_iload_n o dX5_init_18 rfl ?_
  obtain ⟨hf11, h⟩ := h
  obtain ⟨hn12, h⟩ := h
  obtain ⟨hb13, h⟩ := h
  refine r_multi o hn12 hb13 rfl z im_X5_19 hf11.hold ⟨Nat.le_of_ble_eq_true rfl, Nat.le_of_ble_eq_true rfl⟩ dX5_init_19 (fun b14 => ?_)
  obtain ⟨P15, hP16⟩ : ∃ P9, P9 = pmul P4 b14 := ⟨_, rfl⟩
  rw [← hP16]
  replace h := h b14 P15 hP16
  have hx17 : Pext P4 P15 := (by rw [hP16]; exact hf11.ext)
  have hp18 : P15.2.1 7 = true := (hx17.1 _ hp7).1
  have hp19 : P15.2.1 29 = true := (hx17.1 _ hp8).1
  have hp20 : P15.2.1 30 = true := (by rw [hP16]; rfl)
  have hp20a : P15.1 30 = b14 := (show P15.1 30 = b14 by rw [hP16]; rfl)
  refine j_conv (lo' := [(0, .ref (P15.1 7)), (1, .int a1)]) (st' := [.ref (P15.1 30), .ref (P15.1 7)]) (by rw [(hx17.1 7 hp7).2] <;> rfl) (by rw [(hx17.1 7 hp7).2, hp20a] <;> rfl) ?_
  have hw21 : Pext P P15 := hw9.trans hx17
  refine r_putF (g := 7) (slot := 3) (x := 1) (ci := 5) (ty := .array (.array .int)) o hp18 rfl rfl (rfv_r (by decide)) rfl jin_X5 tyX5_ok nmX5 (by decide) rfl rfl rfl rfl jf_X5_21 (by decide +kernel) rfl rfl dX5_init_23 ?_
  refine j_iconst o (v := 0) dX5_init_26 rfl ?_
  refine j_istore_n o [(2, .int 0), (0, .ref (P15.1 7)), (1, .int a1)] dX5_init_27 (by decide) rfl ?_
  replace h := h (fun (x22 : Int32) (M23 : jM) => J X P15 M23 (zN5 (zN N 29)) 6 44 E 4 28 [(0, .ref (P15.1 7)), (1, .int a1), (2, .int x22)] []) (by
    intro x22 M23 h
    refine j_iload_n o dX5_init_28 rfl ?_
    refine j_iconst o (v := 4) dX5_init_29 rfl ?_
    refine j_icmp_ge o (tgt := 61) dX5_init_30 (by decide) (fun c24 => ?_) (fun c24 => ?_)
    · replace h := h.1 c24
      rw [hE]
      exact j_vret o dX5_init_61 ⟨rfl, hw21, h⟩
    · replace h := h.2 c24
      refine j_iconst o (v := 0) dX5_init_33 rfl ?_
      refine j_istore_n o [(3, .int 0), (0, .ref (P15.1 7)), (1, .int a1), (2, .int x22)] dX5_init_34 (by decide) rfl ?_
      replace h := h (fun (x25 : Int32) (M26 : jM) => J X P15 M26 (zN5 (zN N 29)) 6 44 E 4 35 [(0, .ref (P15.1 7)), (1, .int a1), (2, .int x22), (3, .int x25)] []) (by
        intro x25 M26 h
        refine j_iload_n o dX5_init_35 rfl ?_
        refine j_iload_n o dX5_init_36 rfl ?_
        refine j_icmp_ge o (tgt := 55) dX5_init_37 (by decide) (fun c27 => ?_) (fun c27 => ?_)
        · replace h := h.1 c27
          refine j_iinc o (v := x22 + 1) [(2, .int (x22 + 1)), (0, .ref (P15.1 7)), (1, .int a1), (3, .int x25)] dX5_init_55 rfl rfl (by decide) rfl ?_
          refine j_goto o (tgt := 28) dX5_init_58 (by decide) ?_
          exact j_pick [1, 2, 0] rfl h
        · replace h := h.2 c27
          refine j_aload_n o dX5_init_40 rfl ?_
          obtain ⟨hz28, h⟩ := h
          refine r_get (g := 7) (slot := 3) (ci := 5) (v := .ref (P15.1 30)) o hp18 rfl rfl (rfv_r0 (by decide) hz28) rfl jin_X5 (by decide) rfl jf_X5_21 dX5_init_41 ?_
          refine j_iload_n o dX5_init_44 rfl ?_
          obtain ⟨hb29, h⟩ := h
          refine j_aaldInts2 o (g := 30) (fun tA => (LR_ar hp20 rfl tA _ _).trans rfl) hb29 dX5_init_45 ?_
          refine j_iload_n o dX5_init_46 rfl ?_
          refine j_iconst o (v := 5) dX5_init_47 rfl ?_
          obtain ⟨hb30, h⟩ := h
          obtain ⟨nnhb30, hchb30, hihb30⟩ := hb30
          refine j_iast o (g := 31 + x22.toNatClampNeg) hchb30 hihb30 dX5_init_48 ?_
          refine j_nameM (fun M31 hM31 => ?_)
          replace h := h M31 hM31
          refine j_iinc o (v := x25 + 1) [(3, .int (x25 + 1)), (0, .ref (P15.1 7)), (1, .int a1), (2, .int x22)] dX5_init_49 rfl rfl (by decide) rfl ?_
          refine j_goto o (tgt := 35) dX5_init_52 (by decide) ?_
          exact j_pick [1, 2, 3, 0] rfl h)
      exact j_pick [1, 2, 3, 0] rfl h)
  exact j_pick [1, 2, 0] rfl h

abbrev rm_X0_init : Room := { frames := 1, cells := 3, slots := 59049, locals := 24 }
def w_X0_init (P : jP)  (M : jM) (N : jN) (Q : jP → jM → jN → Prop) : Prop :=
  P.2.1 8 = true ∧
  P.2.1 2 = true ∧
  P.2.1 6 = true ∧
  P.2.1 7 = true ∧
  ∀ M5 : jM, M5 = upM (upM (upM M 8 10 1) 8 0 1) 8 1 1 →
  rfree kob LC P (upM M5 8 2 1) 35 ∧
  ((upM M5 8 2 1) 2 3) = nI (P.2.2 2) ∧
  P.2.2 2 ≤ 19683 ∧
  ∀ b9 : Nat,
  ∀ P10 : jP, P10 = pnew P 35 b9 →
  ∀ M19 : jM, M19 = upM (zM (upM M5 8 2 1) 35) 8 3 1 →
  rfree kob LC P10 M19 36 ∧
  (M19 2 3) = nI (P10.2.2 2) ∧
  P10.2.2 2 ≤ 19683 ∧
  ∀ b23 : Nat,
  ∀ P24 : jP, P24 = pnew P10 36 b23 →
  rfree kob LC P24 (upM (zM M19 36) 8 4 1) 37 ∧
  ((upM (zM M19 36) 8 4 1) 2 3) = nI (P24.2.2 2) ∧
  P24.2.2 2 ≤ 19683 ∧
  ∀ b37 : Nat,
  ∀ P38 : jP, P38 = pnew P24 37 b37 →
  ∀ M49 : jM, M49 = zM (upM (zM M19 36) 8 4 1) 37 →
  Q P38 (upM M49 8 5 1) (zN (zN (zN N 35) 36) 37)
set_option maxRecDepth 20000 in
theorem c_X0_init (l : Launch) (P : jP)  (M : jM) (N : jN) (Q : jP → jM → jN → Prop) (h : w_X0_init P M N Q) : jC l yX0_init cX0_init 4 none rm_X0_init LK [.ref (P.1 8), .ref (P.1 2), .ref (P.1 6), .ref (P.1 7)] P M N (jqp P Q) := by
  refine jC_of (by decide +kernel) [(0, .ref (P.1 8)), (1, .ref (P.1 2)), (2, .ref (P.1 6)), (3, .ref (P.1 7))] (Nat.le_of_ble_eq_true rfl) rfl (fun X o  => ?_)
  obtain ⟨E, hE⟩ : ∃ E, E = jE X rm_X0_init (jqp P Q) := ⟨_, rfl⟩
  rw [← hE]
  unfold w_X0_init at h
  obtain ⟨hp1, h⟩ := h
  obtain ⟨hp2, h⟩ := h
  obtain ⟨hp3, h⟩ := h
  obtain ⟨hp4, h⟩ := h
  refine j_aload_n o dX0_init_0 rfl ?_
  refine j_objInit o io_X0_3 ⟨Nat.le_of_ble_eq_true rfl, Nat.le_of_ble_eq_true rfl⟩ dX0_init_1 ?_
  refine j_aload_n o dX0_init_4 rfl ?_
  refine j_iconst o (v := 1) dX0_init_5 rfl ?_
  refine r_put (g := 8) (slot := 10) (x := 1) (ci := 0) (ty := .boolean) o hp1 rfl rfl rfv_i rfl jin_X0 tyX0_ok nmX0 (by decide) rfl rfl jf_X0_9 (by decide +kernel) rfl rfl dX0_init_6 ?_
  refine j_aload_n o dX0_init_9 rfl ?_
  refine j_aload_n o dX0_init_10 rfl ?_
  refine r_putF (g := 8) (slot := 0) (x := 1) (ci := 0) (ty := .object "CoalForm$Grid") o hp1 rfl rfl (rfv_r (by decide)) rfl jin_X0 tyX0_ok nmX0 (by decide) rfl rfl rfl rfl jf_X0_15 (by decide +kernel) rfl rfl dX0_init_11 ?_
  refine j_aload_n o dX0_init_14 rfl ?_
  refine j_aload_n o dX0_init_15 rfl ?_
  refine r_putF (g := 8) (slot := 1) (x := 1) (ci := 0) (ty := .object "CoalForm$Settings") o hp1 rfl rfl (rfv_r (by decide)) rfl jin_X0 tyX0_ok nmX0 (by decide) rfl rfl rfl rfl jf_X0_19 (by decide +kernel) rfl rfl dX0_init_16 ?_
  refine j_nameM (fun M5 hM5 => ?_)
  replace h := h M5 hM5
  refine j_aload_n o dX0_init_19 rfl ?_
  refine j_aload_n o dX0_init_20 rfl ?_
  refine r_putF (g := 8) (slot := 2) (x := 1) (ci := 0) (ty := .object "CoalForm$People") o hp1 rfl rfl (rfv_r (by decide)) rfl jin_X0 tyX0_ok nmX0 (by decide) rfl rfl rfl rfl jf_X0_23 (by decide +kernel) rfl rfl dX0_init_21 ?_
  refine j_aload_n o dX0_init_24 rfl ?_
  refine j_aload_n o dX0_init_25 rfl ?_
  refine r_get (g := 2) (slot := 3) (ci := 3) (v := .int ((upM M5 8 2 1) 2 3)) o hp2 rfl rfl rfl rfl jin_X3 (by decide) rfl jf_X0_27 dX0_init_26 ?_
  obtain ⟨hf6, h⟩ := h
  obtain ⟨hn7, h⟩ := h
  obtain ⟨hb8, h⟩ := h
  refine r_newarr (g := 35) (ti := 1) (nn := P.2.2 2) (B := 19683) (atype := .long) (ty := .long) (a0 := (P.2.2 2, .inr (.inl (fun _ => 0)))) o rfl (fun _ => rfl) (fun _ _ h => h) (fun _ => rfl) (iz_long _ List.mem_cons_self) hn7 hb8 (Nat.le_of_ble_eq_true rfl) (Nat.le_of_ble_eq_true rfl) hf6.hold (fun a tA e he => rnew_ar rfl rfl he) ⟨Nat.le_of_ble_eq_true rfl, Nat.le_of_ble_eq_true rfl⟩ dX0_init_29 (fun b9 => ?_)
  obtain ⟨P10, hP11⟩ : ∃ P9, P9 = pnew P 35 b9 := ⟨_, rfl⟩
  rw [← hP11]
  replace h := h b9 P10 hP11
  have hx12 : Pext P P10 := (by rw [hP11]; exact Pext.new hf6.1)
  have hp13 : P10.2.1 8 = true := (hx12.1 _ hp1).1
  have hp14 : P10.2.1 2 = true := (hx12.1 _ hp2).1
  have hp15 : P10.2.1 6 = true := (hx12.1 _ hp3).1
  have hp16 : P10.2.1 7 = true := (hx12.1 _ hp4).1
  have hp17 : P10.2.1 35 = true := (by rw [hP11]; exact (pnew_at _ _ _).1)
  have hp17a : P10.1 35 = b9 := (show P10.1 35 = b9 by rw [hP11]; exact (pnew_at _ _ _).2)
  refine j_conv (lo' := [(0, .ref (P10.1 8)), (1, .ref (P10.1 2)), (2, .ref (P10.1 6)), (3, .ref (P10.1 7))]) (st' := [.ref (P10.1 35), .ref (P10.1 8)]) (by rw [(hx12.1 8 hp1).2, (hx12.1 2 hp2).2, (hx12.1 6 hp3).2, (hx12.1 7 hp4).2] <;> rfl) (by rw [(hx12.1 8 hp1).2, hp17a] <;> rfl) ?_
  have hw18 : Pext P P10 := hx12
  refine r_putF (g := 8) (slot := 3) (x := 1) (ci := 0) (ty := .array .long) o hp13 rfl rfl (rfv_r (by decide)) rfl jin_X0 tyX0_ok nmX0 (by decide) rfl rfl rfl rfl jf_X0_33 (by decide +kernel) rfl rfl dX0_init_31 ?_
  refine j_nameM (fun M19 hM19 => ?_)
  replace h := h M19 hM19
  refine j_aload_n o dX0_init_34 rfl ?_
  refine j_aload_n o dX0_init_35 rfl ?_
  refine r_get (g := 2) (slot := 3) (ci := 3) (v := .int (M19 2 3)) o hp14 rfl rfl rfl rfl jin_X3 (by decide) rfl jf_X0_27 dX0_init_36 ?_
  obtain ⟨hf20, h⟩ := h
  obtain ⟨hn21, h⟩ := h
  obtain ⟨hb22, h⟩ := h
  refine r_newarr (g := 36) (ti := 1) (nn := P10.2.2 2) (B := 19683) (atype := .long) (ty := .long) (a0 := (P10.2.2 2, .inr (.inl (fun _ => 0)))) o rfl (fun _ => rfl) (fun _ _ h => h) (fun _ => rfl) (iz_long _ List.mem_cons_self) hn21 hb22 (Nat.le_of_ble_eq_true rfl) (Nat.le_of_ble_eq_true rfl) hf20.hold (fun a tA e he => rnew_ar rfl rfl he) ⟨Nat.le_of_ble_eq_true rfl, Nat.le_of_ble_eq_true rfl⟩ dX0_init_39 (fun b23 => ?_)
  obtain ⟨P24, hP25⟩ : ∃ P9, P9 = pnew P10 36 b23 := ⟨_, rfl⟩
  rw [← hP25]
  replace h := h b23 P24 hP25
  have hx26 : Pext P10 P24 := (by rw [hP25]; exact Pext.new hf20.1)
  have hp27 : P24.2.1 8 = true := (hx26.1 _ hp13).1
  have hp28 : P24.2.1 2 = true := (hx26.1 _ hp14).1
  have hp29 : P24.2.1 6 = true := (hx26.1 _ hp15).1
  have hp30 : P24.2.1 7 = true := (hx26.1 _ hp16).1
  have hp31 : P24.2.1 35 = true := (hx26.1 _ hp17).1
  have hp32 : P24.2.1 36 = true := (by rw [hP25]; exact (pnew_at _ _ _).1)
  have hp32a : P24.1 36 = b23 := (show P24.1 36 = b23 by rw [hP25]; exact (pnew_at _ _ _).2)
  refine j_conv (lo' := [(0, .ref (P24.1 8)), (1, .ref (P24.1 2)), (2, .ref (P24.1 6)), (3, .ref (P24.1 7))]) (st' := [.ref (P24.1 36), .ref (P24.1 8)]) (by rw [(hx26.1 8 hp13).2, (hx26.1 2 hp14).2, (hx26.1 6 hp15).2, (hx26.1 7 hp16).2] <;> rfl) (by rw [(hx26.1 8 hp13).2, hp32a] <;> rfl) ?_
  have hw33 : Pext P P24 := hw18.trans hx26
  refine r_putF (g := 8) (slot := 4) (x := 1) (ci := 0) (ty := .array .long) o hp27 rfl rfl (rfv_r (by decide)) rfl jin_X0 tyX0_ok nmX0 (by decide) rfl rfl rfl rfl jf_X0_37 (by decide +kernel) rfl rfl dX0_init_41 ?_
  refine j_aload_n o dX0_init_44 rfl ?_
  refine j_aload_n o dX0_init_45 rfl ?_
  refine r_get (g := 2) (slot := 3) (ci := 3) (v := .int ((upM (zM M19 36) 8 4 1) 2 3)) o hp28 rfl rfl rfl rfl jin_X3 (by decide) rfl jf_X0_27 dX0_init_46 ?_
  obtain ⟨hf34, h⟩ := h
  obtain ⟨hn35, h⟩ := h
  obtain ⟨hb36, h⟩ := h
  refine r_newarr (g := 37) (ti := 0) (nn := P24.2.2 2) (B := 19683) (atype := .int) (ty := .int) (a0 := (P24.2.2 2, .inl (fun _ => 0))) o rfl (fun _ => rfl) (fun _ _ h => h) (fun _ => rfl) (iz_int _ List.mem_cons_self) hn35 hb36 (Nat.le_of_ble_eq_true rfl) (Nat.le_of_ble_eq_true rfl) hf34.hold (fun a tA e he => rnew_ar rfl rfl he) ⟨Nat.le_of_ble_eq_true rfl, Nat.le_of_ble_eq_true rfl⟩ dX0_init_49 (fun b37 => ?_)
  obtain ⟨P38, hP39⟩ : ∃ P9, P9 = pnew P24 37 b37 := ⟨_, rfl⟩
  rw [← hP39]
  replace h := h b37 P38 hP39
  have hx40 : Pext P24 P38 := (by rw [hP39]; exact Pext.new hf34.1)
  have hp41 : P38.2.1 8 = true := (hx40.1 _ hp27).1
  have hp42 : P38.2.1 2 = true := (hx40.1 _ hp28).1
  have hp43 : P38.2.1 6 = true := (hx40.1 _ hp29).1
  have hp44 : P38.2.1 7 = true := (hx40.1 _ hp30).1
  have hp45 : P38.2.1 35 = true := (hx40.1 _ hp31).1
  have hp46 : P38.2.1 36 = true := (hx40.1 _ hp32).1
  have hp47 : P38.2.1 37 = true := (by rw [hP39]; exact (pnew_at _ _ _).1)
  have hp47a : P38.1 37 = b37 := (show P38.1 37 = b37 by rw [hP39]; exact (pnew_at _ _ _).2)
  refine j_conv (lo' := [(0, .ref (P38.1 8)), (1, .ref (P38.1 2)), (2, .ref (P38.1 6)), (3, .ref (P38.1 7))]) (st' := [.ref (P38.1 37), .ref (P38.1 8)]) (by rw [(hx40.1 8 hp27).2, (hx40.1 2 hp28).2, (hx40.1 6 hp29).2, (hx40.1 7 hp30).2] <;> rfl) (by rw [(hx40.1 8 hp27).2, hp47a] <;> rfl) ?_
  have hw48 : Pext P P38 := hw33.trans hx40
  refine j_nameM (fun M49 hM49 => ?_)
  replace h := h M49 hM49
  refine r_putF (g := 8) (slot := 5) (x := 1) (ci := 0) (ty := .array .int) o hp41 rfl rfl (rfv_r (by decide)) rfl jin_X0 tyX0_ok nmX0 (by decide) rfl rfl rfl rfl jf_X0_40 (by decide +kernel) rfl rfl dX0_init_51 ?_
  rw [hE]
  exact j_vret o dX0_init_54 ⟨rfl, hw48, h⟩

abbrev rm_X6_init : Room := { frames := 1, cells := 5, slots := 1560, locals := 24 }
def w_X6_init (P : jP) (a1 : Int32) (M : jM) (N : jN) (Q : jP → jM → jN → Prop) : Prop :=
  P.2.1 9 = true ∧
  rfree kob LC P M 38 ∧
  ∀ b3 : Nat,
  ∀ P4 : jP, P4 = pnew P 38 b3 →
  rfree kob LC P4 (upM (zM M 38) 9 1 1) 40 ∧
  ∀ b11 : Nat,
  ∀ P12 : jP, P12 = pnew P4 40 b11 →
  ∀ M19 : jM, M19 = zM (upM (zM M 38) 9 1 1) 40 →
  rfree kob LC P12 (upM M19 9 3 1) 41 ∧
  ∀ b21 : Nat,
  ∀ P22 : jP, P22 = pnew P12 41 b21 →
  ∀ M30 : jM, M30 = upM (zM (upM M19 9 3 1) 41) 9 4 1 →
  rfree kob LC P22 M30 42 ∧
  ∀ b32 : Nat,
  ∀ P33 : jP, P33 = pnew P22 42 b32 →
  ∀ N42 : jN, N42 = zN (zN (zN (zN N 38) 40) 41) 42 →
  rfree kob LC P33 (upM (zM M30 42) 9 5 1) 39 ∧
  a1 = nI (P33.2.2 1) ∧
  P33.2.2 1 ≤ 512 ∧
  ∀ b46 : Nat,
  ∀ P47 : jP, P47 = pnew P33 39 b46 →
  ∀ M57 : jM, M57 = zM (upM (zM M30 42) 9 5 1) 39 →
  Q P47 (upM M57 9 2 1) (zN N42 39)
set_option maxRecDepth 20000 in
theorem c_X6_init (l : Launch) (P : jP) (a1 : Int32) (M : jM) (N : jN) (Q : jP → jM → jN → Prop) (h : w_X6_init P a1 M N Q) : jC l yX6_init cX6_init 2 none rm_X6_init LK [.ref (P.1 9), .int a1] P M N (jqp P Q) := by
  refine jC_of (by decide +kernel) [(0, .ref (P.1 9)), (1, .int a1)] (Nat.le_of_ble_eq_true rfl) rfl (fun X o  => ?_)
  obtain ⟨E, hE⟩ : ∃ E, E = jE X rm_X6_init (jqp P Q) := ⟨_, rfl⟩
  rw [← hE]
  unfold w_X6_init at h
  obtain ⟨hp1, h⟩ := h
  refine j_aload_n o dX6_init_0 rfl ?_
  refine j_objInit o io_X6_3 ⟨Nat.le_of_ble_eq_true rfl, Nat.le_of_ble_eq_true rfl⟩ dX6_init_1 ?_
  refine j_aload_n o dX6_init_4 rfl ?_
  refine j_bipush o (v := 10) dX6_init_5 rfl ?_
  obtain ⟨hf2, h⟩ := h
  refine r_newarr (g := 38) (ti := 0) (nn := 10) (B := 10) (atype := .int) (ty := .int) (a0 := (10, .inl (fun _ => 0))) o rfl (fun _ => rfl) (fun _ _ h => h) (fun _ => rfl) (iz_int _ List.mem_cons_self) rfl (Nat.le_refl _) (Nat.le_of_ble_eq_true rfl) (Nat.le_of_ble_eq_true rfl) hf2.hold (fun a tA e he => rnew_ar rfl rfl he) ⟨Nat.le_of_ble_eq_true rfl, Nat.le_of_ble_eq_true rfl⟩ dX6_init_7 (fun b3 => ?_)
  obtain ⟨P4, hP5⟩ : ∃ P9, P9 = pnew P 38 b3 := ⟨_, rfl⟩
  rw [← hP5]
  replace h := h b3 P4 hP5
  have hx6 : Pext P P4 := (by rw [hP5]; exact Pext.new hf2.1)
  have hp7 : P4.2.1 9 = true := (hx6.1 _ hp1).1
  have hp8 : P4.2.1 38 = true := (by rw [hP5]; exact (pnew_at _ _ _).1)
  have hp8a : P4.1 38 = b3 := (show P4.1 38 = b3 by rw [hP5]; exact (pnew_at _ _ _).2)
  refine j_conv (lo' := [(0, .ref (P4.1 9)), (1, .int a1)]) (st' := [.ref (P4.1 38), .ref (P4.1 9)]) (by rw [(hx6.1 9 hp1).2] <;> rfl) (by rw [(hx6.1 9 hp1).2, hp8a] <;> rfl) ?_
  have hw9 : Pext P P4 := hx6
  refine r_putF (g := 9) (slot := 1) (x := 1) (ci := 6) (ty := .array .int) o hp7 rfl rfl (rfv_r (by decide)) rfl jin_X6 tyX6_ok nmX6 (by decide) rfl rfl rfl rfl jf_X6_9 (by decide +kernel) rfl rfl dX6_init_9 ?_
  refine j_aload_n o dX6_init_12 rfl ?_
  refine j_sipush o (v := 1024) dX6_init_13 rfl ?_
  obtain ⟨hf10, h⟩ := h
  refine r_newarr (g := 40) (ti := 0) (nn := 1024) (B := 1024) (atype := .int) (ty := .int) (a0 := (1024, .inl (fun _ => 0))) o rfl (fun _ => rfl) (fun _ _ h => h) (fun _ => rfl) (iz_int _ List.mem_cons_self) rfl (Nat.le_refl _) (Nat.le_of_ble_eq_true rfl) (Nat.le_of_ble_eq_true rfl) hf10.hold (fun a tA e he => rnew_ar rfl rfl he) ⟨Nat.le_of_ble_eq_true rfl, Nat.le_of_ble_eq_true rfl⟩ dX6_init_16 (fun b11 => ?_)
  obtain ⟨P12, hP13⟩ : ∃ P9, P9 = pnew P4 40 b11 := ⟨_, rfl⟩
  rw [← hP13]
  replace h := h b11 P12 hP13
  have hx14 : Pext P4 P12 := (by rw [hP13]; exact Pext.new hf10.1)
  have hp15 : P12.2.1 9 = true := (hx14.1 _ hp7).1
  have hp16 : P12.2.1 38 = true := (hx14.1 _ hp8).1
  have hp17 : P12.2.1 40 = true := (by rw [hP13]; exact (pnew_at _ _ _).1)
  have hp17a : P12.1 40 = b11 := (show P12.1 40 = b11 by rw [hP13]; exact (pnew_at _ _ _).2)
  refine j_conv (lo' := [(0, .ref (P12.1 9)), (1, .int a1)]) (st' := [.ref (P12.1 40), .ref (P12.1 9)]) (by rw [(hx14.1 9 hp7).2] <;> rfl) (by rw [(hx14.1 9 hp7).2, hp17a] <;> rfl) ?_
  have hw18 : Pext P P12 := hw9.trans hx14
  refine j_nameM (fun M19 hM19 => ?_)
  replace h := h M19 hM19
  refine r_putF (g := 9) (slot := 3) (x := 1) (ci := 6) (ty := .array .int) o hp15 rfl rfl (rfv_r (by decide)) rfl jin_X6 tyX6_ok nmX6 (by decide) rfl rfl rfl rfl jf_X6_15 (by decide +kernel) rfl rfl dX6_init_18 ?_
  refine j_aload_n o dX6_init_21 rfl ?_
  refine j_bipush o (v := 7) dX6_init_22 rfl ?_
  obtain ⟨hf20, h⟩ := h
  refine r_newarr (g := 41) (ti := 0) (nn := 7) (B := 7) (atype := .int) (ty := .int) (a0 := (7, .inl (fun _ => 0))) o rfl (fun _ => rfl) (fun _ _ h => h) (fun _ => rfl) (iz_int _ List.mem_cons_self) rfl (Nat.le_refl _) (Nat.le_of_ble_eq_true rfl) (Nat.le_of_ble_eq_true rfl) hf20.hold (fun a tA e he => rnew_ar rfl rfl he) ⟨Nat.le_of_ble_eq_true rfl, Nat.le_of_ble_eq_true rfl⟩ dX6_init_24 (fun b21 => ?_)
  obtain ⟨P22, hP23⟩ : ∃ P9, P9 = pnew P12 41 b21 := ⟨_, rfl⟩
  rw [← hP23]
  replace h := h b21 P22 hP23
  have hx24 : Pext P12 P22 := (by rw [hP23]; exact Pext.new hf20.1)
  have hp25 : P22.2.1 9 = true := (hx24.1 _ hp15).1
  have hp26 : P22.2.1 38 = true := (hx24.1 _ hp16).1
  have hp27 : P22.2.1 40 = true := (hx24.1 _ hp17).1
  have hp28 : P22.2.1 41 = true := (by rw [hP23]; exact (pnew_at _ _ _).1)
  have hp28a : P22.1 41 = b21 := (show P22.1 41 = b21 by rw [hP23]; exact (pnew_at _ _ _).2)
  refine j_conv (lo' := [(0, .ref (P22.1 9)), (1, .int a1)]) (st' := [.ref (P22.1 41), .ref (P22.1 9)]) (by rw [(hx24.1 9 hp15).2] <;> rfl) (by rw [(hx24.1 9 hp15).2, hp28a] <;> rfl) ?_
  have hw29 : Pext P P22 := hw18.trans hx24
  refine r_putF (g := 9) (slot := 4) (x := 1) (ci := 6) (ty := .array .int) o hp25 rfl rfl (rfv_r (by decide)) rfl jin_X6 tyX6_ok nmX6 (by decide) rfl rfl rfl rfl jf_X6_18 (by decide +kernel) rfl rfl dX6_init_26 ?_
  refine j_nameM (fun M30 hM30 => ?_)
  replace h := h M30 hM30
  refine j_aload_n o dX6_init_29 rfl ?_
  refine j_bipush o (v := 7) dX6_init_30 rfl ?_
  obtain ⟨hf31, h⟩ := h
  refine r_newarr (g := 42) (ti := 0) (nn := 7) (B := 7) (atype := .int) (ty := .int) (a0 := (7, .inl (fun _ => 0))) o rfl (fun _ => rfl) (fun _ _ h => h) (fun _ => rfl) (iz_int _ List.mem_cons_self) rfl (Nat.le_refl _) (Nat.le_of_ble_eq_true rfl) (Nat.le_of_ble_eq_true rfl) hf31.hold (fun a tA e he => rnew_ar rfl rfl he) ⟨Nat.le_of_ble_eq_true rfl, Nat.le_of_ble_eq_true rfl⟩ dX6_init_32 (fun b32 => ?_)
  obtain ⟨P33, hP34⟩ : ∃ P9, P9 = pnew P22 42 b32 := ⟨_, rfl⟩
  rw [← hP34]
  replace h := h b32 P33 hP34
  have hx35 : Pext P22 P33 := (by rw [hP34]; exact Pext.new hf31.1)
  have hp36 : P33.2.1 9 = true := (hx35.1 _ hp25).1
  have hp37 : P33.2.1 38 = true := (hx35.1 _ hp26).1
  have hp38 : P33.2.1 40 = true := (hx35.1 _ hp27).1
  have hp39 : P33.2.1 41 = true := (hx35.1 _ hp28).1
  have hp40 : P33.2.1 42 = true := (by rw [hP34]; exact (pnew_at _ _ _).1)
  have hp40a : P33.1 42 = b32 := (show P33.1 42 = b32 by rw [hP34]; exact (pnew_at _ _ _).2)
  refine j_conv (lo' := [(0, .ref (P33.1 9)), (1, .int a1)]) (st' := [.ref (P33.1 42), .ref (P33.1 9)]) (by rw [(hx35.1 9 hp25).2] <;> rfl) (by rw [(hx35.1 9 hp25).2, hp40a] <;> rfl) ?_
  have hw41 : Pext P P33 := hw29.trans hx35
  refine j_nameN (fun N42 hN42 => ?_)
  replace h := h N42 hN42
  refine r_putF (g := 9) (slot := 5) (x := 1) (ci := 6) (ty := .array .int) o hp36 rfl rfl (rfv_r (by decide)) rfl jin_X6 tyX6_ok nmX6 (by decide) rfl rfl rfl rfl jf_X6_21 (by decide +kernel) rfl rfl dX6_init_34 ?_
  refine j_aload_n o dX6_init_37 rfl ?_
  refine j_iload_n o dX6_init_38 rfl ?_
  obtain ⟨hf43, h⟩ := h
  obtain ⟨hn44, h⟩ := h
  obtain ⟨hb45, h⟩ := h
  refine r_newarr (g := 39) (ti := 0) (nn := P33.2.2 1) (B := 512) (atype := .int) (ty := .int) (a0 := (P33.2.2 1, .inl (fun _ => 0))) o rfl (fun _ => rfl) (fun _ _ h => h) (fun _ => rfl) (iz_int _ List.mem_cons_self) hn44 hb45 (Nat.le_of_ble_eq_true rfl) (Nat.le_of_ble_eq_true rfl) hf43.hold (fun a tA e he => rnew_ar rfl rfl he) ⟨Nat.le_of_ble_eq_true rfl, Nat.le_of_ble_eq_true rfl⟩ dX6_init_39 (fun b46 => ?_)
  obtain ⟨P47, hP48⟩ : ∃ P9, P9 = pnew P33 39 b46 := ⟨_, rfl⟩
  rw [← hP48]
  replace h := h b46 P47 hP48
  have hx49 : Pext P33 P47 := (by rw [hP48]; exact Pext.new hf43.1)
  have hp50 : P47.2.1 9 = true := (hx49.1 _ hp36).1
  have hp51 : P47.2.1 38 = true := (hx49.1 _ hp37).1
  have hp52 : P47.2.1 40 = true := (hx49.1 _ hp38).1
  have hp53 : P47.2.1 41 = true := (hx49.1 _ hp39).1
  have hp54 : P47.2.1 42 = true := (hx49.1 _ hp40).1
  have hp55 : P47.2.1 39 = true := (by rw [hP48]; exact (pnew_at _ _ _).1)
  have hp55a : P47.1 39 = b46 := (show P47.1 39 = b46 by rw [hP48]; exact (pnew_at _ _ _).2)
  refine j_conv (lo' := [(0, .ref (P47.1 9)), (1, .int a1)]) (st' := [.ref (P47.1 39), .ref (P47.1 9)]) (by rw [(hx49.1 9 hp36).2] <;> rfl) (by rw [(hx49.1 9 hp36).2, hp55a] <;> rfl) ?_
  have hw56 : Pext P P47 := hw41.trans hx49
  refine j_nameM (fun M57 hM57 => ?_)
  replace h := h M57 hM57
  refine r_putF (g := 9) (slot := 2) (x := 1) (ci := 6) (ty := .array .int) o hp50 rfl rfl (rfv_r (by decide)) rfl jin_X6 tyX6_ok nmX6 (by decide) rfl rfl rfl rfl jf_X6_24 (by decide +kernel) rfl rfl dX6_init_41 ?_
  rw [hE]
  exact j_vret o dX6_init_44 ⟨rfl, hw56, h⟩

abbrev rm_X8_init : Room := { frames := 1, cells := 2, slots := 40, locals := 24 }
def w_X8_init (P : jP)  (M : jM) (N : jN) (Q : jP → jM → jN → Prop) : Prop :=
  P.2.1 10 = true ∧
  rfree kob LC P M 43 ∧
  ∀ b3 : Nat,
  ∀ P4 : jP, P4 = pnew P 43 b3 →
  rfree kob LC P4 (upM (zM M 43) 10 1 1) 44 ∧
  ∀ b11 : Nat,
  ∀ P12 : jP, P12 = pnew P4 44 b11 →
  ∀ M19 : jM, M19 = zM (upM (zM M 43) 10 1 1) 44 →
  Q P12 (upM M19 10 2 1) (zN (zN N 43) 44)
set_option maxRecDepth 20000 in
theorem c_X8_init (l : Launch) (P : jP)  (M : jM) (N : jN) (Q : jP → jM → jN → Prop) (h : w_X8_init P M N Q) : jC l yX8_init cX8_init 1 none rm_X8_init LK [.ref (P.1 10)] P M N (jqp P Q) := by
  refine jC_of (by decide +kernel) [(0, .ref (P.1 10))] (Nat.le_of_ble_eq_true rfl) rfl (fun X o  => ?_)
  obtain ⟨E, hE⟩ : ∃ E, E = jE X rm_X8_init (jqp P Q) := ⟨_, rfl⟩
  rw [← hE]
  unfold w_X8_init at h
  obtain ⟨hp1, h⟩ := h
  refine j_aload_n o dX8_init_0 rfl ?_
  refine j_objInit o io_X8_3 ⟨Nat.le_of_ble_eq_true rfl, Nat.le_of_ble_eq_true rfl⟩ dX8_init_1 ?_
  refine j_aload_n o dX8_init_4 rfl ?_
  refine j_bipush o (v := 20) dX8_init_5 rfl ?_
  obtain ⟨hf2, h⟩ := h
  refine r_newarr (g := 43) (ti := 0) (nn := 20) (B := 20) (atype := .int) (ty := .int) (a0 := (20, .inl (fun _ => 0))) o rfl (fun _ => rfl) (fun _ _ h => h) (fun _ => rfl) (iz_int _ List.mem_cons_self) rfl (Nat.le_refl _) (Nat.le_of_ble_eq_true rfl) (Nat.le_of_ble_eq_true rfl) hf2.hold (fun a tA e he => rnew_ar rfl rfl he) ⟨Nat.le_of_ble_eq_true rfl, Nat.le_of_ble_eq_true rfl⟩ dX8_init_7 (fun b3 => ?_)
  obtain ⟨P4, hP5⟩ : ∃ P9, P9 = pnew P 43 b3 := ⟨_, rfl⟩
  rw [← hP5]
  replace h := h b3 P4 hP5
  have hx6 : Pext P P4 := (by rw [hP5]; exact Pext.new hf2.1)
  have hp7 : P4.2.1 10 = true := (hx6.1 _ hp1).1
  have hp8 : P4.2.1 43 = true := (by rw [hP5]; exact (pnew_at _ _ _).1)
  have hp8a : P4.1 43 = b3 := (show P4.1 43 = b3 by rw [hP5]; exact (pnew_at _ _ _).2)
  refine j_conv (lo' := [(0, .ref (P4.1 10))]) (st' := [.ref (P4.1 43), .ref (P4.1 10)]) (by rw [(hx6.1 10 hp1).2] <;> rfl) (by rw [(hx6.1 10 hp1).2, hp8a] <;> rfl) ?_
  have hw9 : Pext P P4 := hx6
  refine r_putF (g := 10) (slot := 1) (x := 1) (ci := 8) (ty := .array .int) o hp7 rfl rfl (rfv_r (by decide)) rfl jin_X8 tyX8_ok nmX8 (by decide) rfl rfl rfl rfl jf_X8_9 (by decide +kernel) rfl rfl dX8_init_9 ?_
  refine j_aload_n o dX8_init_12 rfl ?_
  refine j_bipush o (v := 20) dX8_init_13 rfl ?_
  obtain ⟨hf10, h⟩ := h
  refine r_newarr (g := 44) (ti := 0) (nn := 20) (B := 20) (atype := .int) (ty := .int) (a0 := (20, .inl (fun _ => 0))) o rfl (fun _ => rfl) (fun _ _ h => h) (fun _ => rfl) (iz_int _ List.mem_cons_self) rfl (Nat.le_refl _) (Nat.le_of_ble_eq_true rfl) (Nat.le_of_ble_eq_true rfl) hf10.hold (fun a tA e he => rnew_ar rfl rfl he) ⟨Nat.le_of_ble_eq_true rfl, Nat.le_of_ble_eq_true rfl⟩ dX8_init_15 (fun b11 => ?_)
  obtain ⟨P12, hP13⟩ : ∃ P9, P9 = pnew P4 44 b11 := ⟨_, rfl⟩
  rw [← hP13]
  replace h := h b11 P12 hP13
  have hx14 : Pext P4 P12 := (by rw [hP13]; exact Pext.new hf10.1)
  have hp15 : P12.2.1 10 = true := (hx14.1 _ hp7).1
  have hp16 : P12.2.1 43 = true := (hx14.1 _ hp8).1
  have hp17 : P12.2.1 44 = true := (by rw [hP13]; exact (pnew_at _ _ _).1)
  have hp17a : P12.1 44 = b11 := (show P12.1 44 = b11 by rw [hP13]; exact (pnew_at _ _ _).2)
  refine j_conv (lo' := [(0, .ref (P12.1 10))]) (st' := [.ref (P12.1 44), .ref (P12.1 10)]) (by rw [(hx14.1 10 hp7).2] <;> rfl) (by rw [(hx14.1 10 hp7).2, hp17a] <;> rfl) ?_
  have hw18 : Pext P P12 := hw9.trans hx14
  refine j_nameM (fun M19 hM19 => ?_)
  replace h := h M19 hM19
  refine r_putF (g := 10) (slot := 2) (x := 1) (ci := 8) (ty := .array .int) o hp15 rfl rfl (rfv_r (by decide)) rfl jin_X8 tyX8_ok nmX8 (by decide) rfl rfl rfl rfl jf_X8_15 (by decide +kernel) rfl rfl dX8_init_17 ?_
  rw [hE]
  exact j_vret o dX8_init_20 ⟨rfl, hw18, h⟩

abbrev rm_X11_init : Room := { frames := 3, cells := 47, slots := 99205, locals := 66 }
def w_X11_init (P : jP) (a1 : Int32) (M : jM) (N : jN) (Q : jP → jM → jN → Prop) : Prop :=
  P.2.1 1 = true ∧
  ∀ y2 : Int32, y2 = (if 1 < (if a1 < 9 then a1 else 9) then (if a1 < 9 then a1 else 9) else 1) →
  rfree kob LC P M 2 ∧
  ∀ b4 : Nat,
  ∀ P5 : jP, P5 = pnew P 2 b4 →
  w_X3_init P5 y2 (zM M 2) (zN N 2) (fun P11 M12 N13 =>
  rfree kob LC P11 (upM M12 1 0 1) 3 ∧
  ∀ b21 : Nat,
  ∀ P22 : jP, P22 = pnew P11 3 b21 →
  w_X10_init P22  (zM (upM M12 1 0 1) 3) (zN N13 3) (fun P29 M30 N31 =>
  rfree kob LC P29 (upM M30 1 1 1) 4 ∧
  ∀ b40 : Nat,
  ∀ P41 : jP, P41 = pnew P29 4 b40 →
  ¬ (zM (upM M30 1 1 1) 4) 1 1 = 0 ∧
  w_X7_init P41 y2 (zM (upM M30 1 1 1) 4) (zN N31 4) (fun P50 M51 N52 =>
  rfree kob LC P50 (upM M51 1 2 1) 5 ∧
  ∀ b62 : Nat,
  ∀ P63 : jP, P63 = pnew P50 5 b62 →
  ¬ (zM (upM M51 1 2 1) 5) 1 0 = 0 ∧
  w_X1_init P63  (zM (upM M51 1 2 1) 5) (zN N52 5) (fun P73 M74 N75 =>
  rfree kob LC P73 (upM M74 1 3 1) 6 ∧
  ∀ b86 : Nat,
  ∀ P87 : jP, P87 = pnew P73 6 b86 →
  w_X9_init P87 y2 (zM (upM M74 1 3 1) 6) (zN N75 6) (fun P97 M98 N99 =>
  rfree kob LC P97 (upM M98 1 4 1) 7 ∧
  ∀ b111 : Nat,
  ∀ P112 : jP, P112 = pnew P97 7 b111 →
  w_X5_init P112 y2 (zM (upM M98 1 4 1) 7) (zN N99 7) (fun P123 M124 N125 =>
  rfree kob LC P123 (upM M124 1 5 1) 8 ∧
  ∀ b138 : Nat,
  ∀ P139 : jP, P139 = pnew P123 8 b138 →
  ¬ (zM (upM M124 1 5 1) 8) 1 0 = 0 ∧
  ¬ (zM (upM M124 1 5 1) 8) 1 4 = 0 ∧
  ¬ (zM (upM M124 1 5 1) 8) 1 5 = 0 ∧
  w_X0_init P139  (zM (upM M124 1 5 1) 8) (zN N125 8) (fun P154 M155 N156 =>
  rfree kob LC P154 (upM M155 1 6 1) 9 ∧
  ∀ b170 : Nat,
  ∀ P171 : jP, P171 = pnew P154 9 b170 →
  ¬ (zM (upM M155 1 6 1) 9) 1 0 = 0 ∧
  w_X6_init P171 ((zM (upM M155 1 6 1) 9) 2 2) (zM (upM M155 1 6 1) 9) (zN N156 9) (fun P185 M186 N187 =>
  rfree kob LC P185 (upM M186 1 7 1) 10 ∧
  ∀ b202 : Nat,
  ∀ P203 : jP, P203 = pnew P185 10 b202 →
  w_X8_init P203  (zM (upM M186 1 7 1) 10) (zN N187 10) (fun P217 M218 N219 =>
  rfree kob LC P217 (upM M218 1 8 1) 11 ∧
  ∀ b235 : Nat,
  ∀ P236 : jP, P236 = pnew P217 11 b235 →
  ∀ M251 : jM, M251 = upM (zM (upM M218 1 8 1) 11) 1 9 1 →
  rfree kob LC P236 M251 12 ∧
  ∀ b253 : Nat,
  ∀ P254 : jP, P254 = pnew P236 12 b253 →
  ¬ (upM (zM M251 12) 1 11 1) 1 0 = 0 ∧
  rfree kob LC P254 (upM (zM M251 12) 1 11 1) 13 ∧
  ((upM (zM M251 12) 1 11 1) 2 2) = nI (P254.2.2 1) ∧
  P254.2.2 1 ≤ 512 ∧
  ∀ b274 : Nat,
  ∀ P275 : jP, P275 = pnew P254 13 b274 →
  ∀ M292 : jM, M292 = zM (upM (zM M251 12) 1 11 1) 13 →
  ∀ N293 : jN, N293 = zN (zN (zN N219 11) 12) 13 →
  rfree kob LC P275 (upM M292 1 13 1) 14 ∧
  ∀ b295 : Nat,
  ∀ P296 : jP, P296 = pnew P275 14 b295 →
  ∀ M314 : jM, M314 = upM (zM (upM M292 1 13 1) 14) 1 14 1 →
  Q P296 M314 (zN N293 14))))))))))
set_option maxRecDepth 20000 in
theorem c_X11_init (l : Launch) (P : jP) (a1 : Int32) (M : jM) (N : jN) (Q : jP → jM → jN → Prop) (h : w_X11_init P a1 M N Q) : jCZ l yX11_init cX11_init 3 none rm_X11_init LK [.ref (P.1 1), .int a1] P M N (jqp P Q) := by
  refine jC_ofZ (by decide +kernel) [(0, .ref (P.1 1)), (1, .int a1)] (Nat.le_of_ble_eq_true rfl) rfl (fun X o z => ?_)
  obtain ⟨E, hE⟩ : ∃ E, E = jE X rm_X11_init (jqp P Q) := ⟨_, rfl⟩
  rw [← hE]
  unfold w_X11_init at h
  obtain ⟨hp1, h⟩ := h
  refine j_aload_n o dX11_init_0 rfl ?_
  refine j_objInit o io_X11_1 ⟨Nat.le_of_ble_eq_true rfl, Nat.le_of_ble_eq_true rfl⟩ dX11_init_1 ?_
  refine j_iconst o (v := 1) dX11_init_4 rfl ?_
  refine j_bipush o (v := 9) dX11_init_5 rfl ?_
  refine j_iload_n o dX11_init_7 rfl ?_
  refine j_mmin o dX11_init_8 jc_X11_9 rfl ?_
  refine j_mmax o dX11_init_11 jc_X11_15 rfl ?_
  refine j_topi (fun y2 hy2 => ?_)
  replace h := h y2 hy2
  refine j_istore_n o [(2, .int y2), (0, .ref (P.1 1)), (1, .int a1)] dX11_init_14 (by decide) rfl ?_
  refine j_aload_n o dX11_init_15 rfl ?_
  obtain ⟨hf3, h⟩ := h
  refine r_new (g := 2) (ci := 3) (fs := [.int 0, .int 0, .int 0, .int 0, .null, .null]) o rfl jin_X3 tyX3_ok iw_X11_18 (fun j hj => by rcases (show j = 0 ∨ j = 1 ∨ j = 2 ∨ j = 3 ∨ j = 4 ∨ j = 5 by omega) with rfl | rfl | rfl | rfl | rfl | rfl <;> rfl) hf3.hold (fun a tA e he => rnew_ob rfl rfl he) ⟨Nat.le_of_ble_eq_true rfl, Nat.le_of_ble_eq_true rfl⟩ dX11_init_16 (fun b4 => ?_)
  obtain ⟨P5, hP6⟩ : ∃ P9, P9 = pnew P 2 b4 := ⟨_, rfl⟩
  rw [← hP6]
  replace h := h b4 P5 hP6
  have hx7 : Pext P P5 := (by rw [hP6]; exact Pext.new hf3.1)
  have hp8 : P5.2.1 1 = true := (hx7.1 _ hp1).1
  have hp9 : P5.2.1 2 = true := (by rw [hP6]; exact (pnew_at _ _ _).1)
  have hp9a : P5.1 2 = b4 := (show P5.1 2 = b4 by rw [hP6]; exact (pnew_at _ _ _).2)
  refine j_conv (lo' := [(2, .int y2), (0, .ref (P5.1 1)), (1, .int a1)]) (st' := [.ref (P5.1 2), .ref (P5.1 1)]) (by rw [(hx7.1 1 hp1).2] <;> rfl) (by rw [(hx7.1 1 hp1).2, hp9a] <;> rfl) ?_
  have hw10 : Pext P P5 := hx7
  refine j_dup o dX11_init_19 rfl ?_
  refine j_iload_n o dX11_init_20 rfl ?_
  refine j_callI o (c_X3_init l P5 y2 (zM M 2) (zN N 2) _ h) dX11_init_21 rfl ic_X11_20 (jNm_2 ij_X3_init rfl) ⟨⟨Nat.le_of_ble_eq_true rfl, Nat.le_of_ble_eq_true rfl⟩, Nat.le_of_ble_eq_true rfl, Nat.le_of_ble_eq_true rfl⟩ (Nat.le_of_ble_eq_true rfl) rfl (fun v9 P11 M12 N13 hq14 => ?_)
  obtain ⟨rfl, hx15, h⟩ := hq14
  have hx16 : Pext P5 P11 := hx15
  have hp17 : P11.2.1 1 = true := (hx16.1 _ hp8).1
  have hp18 : P11.2.1 2 = true := (hx16.1 _ hp9).1
  refine j_conv (lo' := [(2, .int y2), (0, .ref (P11.1 1)), (1, .int a1)]) (st' := [.ref (P11.1 2), .ref (P11.1 1)]) (by rw [(hx16.1 1 hp8).2] <;> rfl) (by rw [(hx16.1 1 hp8).2, (hx16.1 2 hp9).2] <;> rfl) ?_
  have hw19 : Pext P P11 := hw10.trans hx16
  refine r_putF (g := 1) (slot := 0) (x := 1) (ci := 11) (ty := .object "CoalForm$Grid") o hp17 rfl rfl (rfv_r (by decide)) rfl jin_X11 tyX11_ok nmX11 (by decide) rfl rfl rfl rfl jf_X11_23 (by decide +kernel) rfl rfl dX11_init_24 ?_
  refine j_aload_n o dX11_init_27 rfl ?_
  obtain ⟨hf20, h⟩ := h
  refine r_new (g := 3) (ci := 10) (fs := [.null, .int 0, .int 0, .int 0]) o rfl jin_X10 tyX10_ok iw_X11_27 (fun j hj => by rcases (show j = 0 ∨ j = 1 ∨ j = 2 ∨ j = 3 by omega) with rfl | rfl | rfl | rfl <;> rfl) hf20.hold (fun a tA e he => rnew_ob rfl rfl he) ⟨Nat.le_of_ble_eq_true rfl, Nat.le_of_ble_eq_true rfl⟩ dX11_init_28 (fun b21 => ?_)
  obtain ⟨P22, hP23⟩ : ∃ P9, P9 = pnew P11 3 b21 := ⟨_, rfl⟩
  rw [← hP23]
  replace h := h b21 P22 hP23
  have hx24 : Pext P11 P22 := (by rw [hP23]; exact Pext.new hf20.1)
  have hp25 : P22.2.1 1 = true := (hx24.1 _ hp17).1
  have hp26 : P22.2.1 2 = true := (hx24.1 _ hp18).1
  have hp27 : P22.2.1 3 = true := (by rw [hP23]; exact (pnew_at _ _ _).1)
  have hp27a : P22.1 3 = b21 := (show P22.1 3 = b21 by rw [hP23]; exact (pnew_at _ _ _).2)
  refine j_conv (lo' := [(2, .int y2), (0, .ref (P22.1 1)), (1, .int a1)]) (st' := [.ref (P22.1 3), .ref (P22.1 1)]) (by rw [(hx24.1 1 hp17).2] <;> rfl) (by rw [(hx24.1 1 hp17).2, hp27a] <;> rfl) ?_
  have hw28 : Pext P P22 := hw19.trans hx24
  refine j_dup o dX11_init_31 rfl ?_
  refine j_callIN o (c_X10_init l P22  (zM (upM M12 1 0 1) 3) (zN N13 3) _ h) dX11_init_32 rfl ic_X11_29 iq_X11_29 (jNm_2 ij_X10_init rfl) ⟨⟨Nat.le_of_ble_eq_true rfl, Nat.le_of_ble_eq_true rfl⟩, Nat.le_of_ble_eq_true rfl, Nat.le_of_ble_eq_true rfl⟩ (Nat.le_of_ble_eq_true rfl) rfl (fun v9 P29 M30 N31 hq32 => ?_)
  obtain ⟨rfl, hx33, h⟩ := hq32
  have hx34 : Pext P22 P29 := hx33
  have hp35 : P29.2.1 1 = true := (hx34.1 _ hp25).1
  have hp36 : P29.2.1 2 = true := (hx34.1 _ hp26).1
  have hp37 : P29.2.1 3 = true := (hx34.1 _ hp27).1
  refine j_conv (lo' := [(2, .int y2), (0, .ref (P29.1 1)), (1, .int a1)]) (st' := [.ref (P29.1 3), .ref (P29.1 1)]) (by rw [(hx34.1 1 hp25).2] <;> rfl) (by rw [(hx34.1 1 hp25).2, (hx34.1 3 hp27).2] <;> rfl) ?_
  have hw38 : Pext P P29 := hw28.trans hx34
  refine r_putF (g := 1) (slot := 1) (x := 1) (ci := 11) (ty := .object "CoalForm$Tape") o hp35 rfl rfl (rfv_r (by decide)) rfl jin_X11 tyX11_ok nmX11 (by decide) rfl rfl rfl rfl jf_X11_30 (by decide +kernel) rfl rfl dX11_init_35 ?_
  refine j_aload_n o dX11_init_38 rfl ?_
  obtain ⟨hf39, h⟩ := h
  refine r_new (g := 4) (ci := 7) (fs := [.null, .int 0, .null, .int 0, .int 0, .null, .null, .null, .null, .null, .int 0]) o rfl jin_X7 tyX7_ok iw_X11_34 (fun j hj => by rcases (show j = 0 ∨ j = 1 ∨ j = 2 ∨ j = 3 ∨ j = 4 ∨ j = 5 ∨ j = 6 ∨ j = 7 ∨ j = 8 ∨ j = 9 ∨ j = 10 by omega) with rfl | rfl | rfl | rfl | rfl | rfl | rfl | rfl | rfl | rfl | rfl <;> rfl) hf39.hold (fun a tA e he => rnew_ob rfl rfl he) ⟨Nat.le_of_ble_eq_true rfl, Nat.le_of_ble_eq_true rfl⟩ dX11_init_39 (fun b40 => ?_)
  obtain ⟨P41, hP42⟩ : ∃ P9, P9 = pnew P29 4 b40 := ⟨_, rfl⟩
  rw [← hP42]
  replace h := h b40 P41 hP42
  have hx43 : Pext P29 P41 := (by rw [hP42]; exact Pext.new hf39.1)
  have hp44 : P41.2.1 1 = true := (hx43.1 _ hp35).1
  have hp45 : P41.2.1 2 = true := (hx43.1 _ hp36).1
  have hp46 : P41.2.1 3 = true := (hx43.1 _ hp37).1
  have hp47 : P41.2.1 4 = true := (by rw [hP42]; exact (pnew_at _ _ _).1)
  have hp47a : P41.1 4 = b40 := (show P41.1 4 = b40 by rw [hP42]; exact (pnew_at _ _ _).2)
  refine j_conv (lo' := [(2, .int y2), (0, .ref (P41.1 1)), (1, .int a1)]) (st' := [.ref (P41.1 4), .ref (P41.1 1)]) (by rw [(hx43.1 1 hp35).2] <;> rfl) (by rw [(hx43.1 1 hp35).2, hp47a] <;> rfl) ?_
  have hw48 : Pext P P41 := hw38.trans hx43
  refine j_dup o dX11_init_42 rfl ?_
  refine j_aload_n o dX11_init_43 rfl ?_
  obtain ⟨hz49, h⟩ := h
  refine r_get (g := 1) (slot := 1) (ci := 11) (v := .ref (P41.1 3)) o hp44 rfl rfl (rfv_r0 (by decide) hz49) rfl jin_X11 (by decide) rfl jf_X11_30 dX11_init_44 ?_
  refine j_iload_n o dX11_init_47 rfl ?_
  refine j_callI o (c_X7_init l P41 y2 (zM (upM M30 1 1 1) 4) (zN N31 4) _ h) dX11_init_48 rfl ic_X11_36 (jNm_2 ij_X7_init rfl) ⟨⟨Nat.le_of_ble_eq_true rfl, Nat.le_of_ble_eq_true rfl⟩, Nat.le_of_ble_eq_true rfl, Nat.le_of_ble_eq_true rfl⟩ (Nat.le_of_ble_eq_true rfl) rfl (fun v9 P50 M51 N52 hq53 => ?_)
  obtain ⟨rfl, hx54, h⟩ := hq53
  have hx55 : Pext P41 P50 := hx54
  have hp56 : P50.2.1 1 = true := (hx55.1 _ hp44).1
  have hp57 : P50.2.1 2 = true := (hx55.1 _ hp45).1
  have hp58 : P50.2.1 3 = true := (hx55.1 _ hp46).1
  have hp59 : P50.2.1 4 = true := (hx55.1 _ hp47).1
  refine j_conv (lo' := [(2, .int y2), (0, .ref (P50.1 1)), (1, .int a1)]) (st' := [.ref (P50.1 4), .ref (P50.1 1)]) (by rw [(hx55.1 1 hp44).2] <;> rfl) (by rw [(hx55.1 1 hp44).2, (hx55.1 4 hp47).2] <;> rfl) ?_
  have hw60 : Pext P P50 := hw48.trans hx55
  refine r_putF (g := 1) (slot := 2) (x := 1) (ci := 11) (ty := .object "CoalForm$Reader") o hp56 rfl rfl (rfv_r (by decide)) rfl jin_X11 tyX11_ok nmX11 (by decide) rfl rfl rfl rfl jf_X11_39 (by decide +kernel) rfl rfl dX11_init_51 ?_
  refine j_aload_n o dX11_init_54 rfl ?_
  obtain ⟨hf61, h⟩ := h
  refine r_new (g := 5) (ci := 1) (fs := [.null, .int 0, .null, .null, .null, .null, .int 0, .int 0]) o rfl jin_X1 tyX1_ok iw_X11_43 (fun j hj => by rcases (show j = 0 ∨ j = 1 ∨ j = 2 ∨ j = 3 ∨ j = 4 ∨ j = 5 ∨ j = 6 ∨ j = 7 by omega) with rfl | rfl | rfl | rfl | rfl | rfl | rfl | rfl <;> rfl) hf61.hold (fun a tA e he => rnew_ob rfl rfl he) ⟨Nat.le_of_ble_eq_true rfl, Nat.le_of_ble_eq_true rfl⟩ dX11_init_55 (fun b62 => ?_)
  obtain ⟨P63, hP64⟩ : ∃ P9, P9 = pnew P50 5 b62 := ⟨_, rfl⟩
  rw [← hP64]
  replace h := h b62 P63 hP64
  have hx65 : Pext P50 P63 := (by rw [hP64]; exact Pext.new hf61.1)
  have hp66 : P63.2.1 1 = true := (hx65.1 _ hp56).1
  have hp67 : P63.2.1 2 = true := (hx65.1 _ hp57).1
  have hp68 : P63.2.1 3 = true := (hx65.1 _ hp58).1
  have hp69 : P63.2.1 4 = true := (hx65.1 _ hp59).1
  have hp70 : P63.2.1 5 = true := (by rw [hP64]; exact (pnew_at _ _ _).1)
  have hp70a : P63.1 5 = b62 := (show P63.1 5 = b62 by rw [hP64]; exact (pnew_at _ _ _).2)
  refine j_conv (lo' := [(2, .int y2), (0, .ref (P63.1 1)), (1, .int a1)]) (st' := [.ref (P63.1 5), .ref (P63.1 1)]) (by rw [(hx65.1 1 hp56).2] <;> rfl) (by rw [(hx65.1 1 hp56).2, hp70a] <;> rfl) ?_
  have hw71 : Pext P P63 := hw60.trans hx65
  refine j_dup o dX11_init_58 rfl ?_
  refine j_aload_n o dX11_init_59 rfl ?_
  obtain ⟨hz72, h⟩ := h
  refine r_get (g := 1) (slot := 0) (ci := 11) (v := .ref (P63.1 2)) o hp66 rfl rfl (rfv_r0 (by decide) hz72) rfl jin_X11 (by decide) rfl jf_X11_23 dX11_init_60 ?_
  refine j_callI o (c_X1_init l P63  (zM (upM M51 1 2 1) 5) (zN N52 5) _ h) dX11_init_63 rfl ic_X11_45 (jNm_2 ij_X1_init rfl) ⟨⟨Nat.le_of_ble_eq_true rfl, Nat.le_of_ble_eq_true rfl⟩, Nat.le_of_ble_eq_true rfl, Nat.le_of_ble_eq_true rfl⟩ (Nat.le_of_ble_eq_true rfl) rfl (fun v9 P73 M74 N75 hq76 => ?_)
  obtain ⟨rfl, hx77, h⟩ := hq76
  have hx78 : Pext P63 P73 := hx77
  have hp79 : P73.2.1 1 = true := (hx78.1 _ hp66).1
  have hp80 : P73.2.1 2 = true := (hx78.1 _ hp67).1
  have hp81 : P73.2.1 3 = true := (hx78.1 _ hp68).1
  have hp82 : P73.2.1 4 = true := (hx78.1 _ hp69).1
  have hp83 : P73.2.1 5 = true := (hx78.1 _ hp70).1
  refine j_conv (lo' := [(2, .int y2), (0, .ref (P73.1 1)), (1, .int a1)]) (st' := [.ref (P73.1 5), .ref (P73.1 1)]) (by rw [(hx78.1 1 hp66).2] <;> rfl) (by rw [(hx78.1 1 hp66).2, (hx78.1 5 hp70).2] <;> rfl) ?_
  have hw84 : Pext P P73 := hw71.trans hx78
  refine r_putF (g := 1) (slot := 3) (x := 1) (ci := 11) (ty := .object "CoalForm$Charts") o hp79 rfl rfl (rfv_r (by decide)) rfl jin_X11 tyX11_ok nmX11 (by decide) rfl rfl rfl rfl jf_X11_48 (by decide +kernel) rfl rfl dX11_init_66 ?_
  refine j_aload_n o dX11_init_69 rfl ?_
  obtain ⟨hf85, h⟩ := h
  refine r_new (g := 6) (ci := 9) (fs := [.int 0, .null, .null, .int 0]) o rfl jin_X9 tyX9_ok iw_X11_52 (fun j hj => by rcases (show j = 0 ∨ j = 1 ∨ j = 2 ∨ j = 3 by omega) with rfl | rfl | rfl | rfl <;> rfl) hf85.hold (fun a tA e he => rnew_ob rfl rfl he) ⟨Nat.le_of_ble_eq_true rfl, Nat.le_of_ble_eq_true rfl⟩ dX11_init_70 (fun b86 => ?_)
  obtain ⟨P87, hP88⟩ : ∃ P9, P9 = pnew P73 6 b86 := ⟨_, rfl⟩
  rw [← hP88]
  replace h := h b86 P87 hP88
  have hx89 : Pext P73 P87 := (by rw [hP88]; exact Pext.new hf85.1)
  have hp90 : P87.2.1 1 = true := (hx89.1 _ hp79).1
  have hp91 : P87.2.1 2 = true := (hx89.1 _ hp80).1
  have hp92 : P87.2.1 3 = true := (hx89.1 _ hp81).1
  have hp93 : P87.2.1 4 = true := (hx89.1 _ hp82).1
  have hp94 : P87.2.1 5 = true := (hx89.1 _ hp83).1
  have hp95 : P87.2.1 6 = true := (by rw [hP88]; exact (pnew_at _ _ _).1)
  have hp95a : P87.1 6 = b86 := (show P87.1 6 = b86 by rw [hP88]; exact (pnew_at _ _ _).2)
  refine j_conv (lo' := [(2, .int y2), (0, .ref (P87.1 1)), (1, .int a1)]) (st' := [.ref (P87.1 6), .ref (P87.1 1)]) (by rw [(hx89.1 1 hp79).2] <;> rfl) (by rw [(hx89.1 1 hp79).2, hp95a] <;> rfl) ?_
  have hw96 : Pext P P87 := hw84.trans hx89
  refine j_dup o dX11_init_73 rfl ?_
  refine j_iload_n o dX11_init_74 rfl ?_
  refine j_callI o (c_X9_init l P87 y2 (zM (upM M74 1 3 1) 6) (zN N75 6) _ h) dX11_init_75 rfl ic_X11_54 (jNm_2 ij_X9_init rfl) ⟨⟨Nat.le_of_ble_eq_true rfl, Nat.le_of_ble_eq_true rfl⟩, Nat.le_of_ble_eq_true rfl, Nat.le_of_ble_eq_true rfl⟩ (Nat.le_of_ble_eq_true rfl) rfl (fun v9 P97 M98 N99 hq100 => ?_)
  obtain ⟨rfl, hx101, h⟩ := hq100
  have hx102 : Pext P87 P97 := hx101
  have hp103 : P97.2.1 1 = true := (hx102.1 _ hp90).1
  have hp104 : P97.2.1 2 = true := (hx102.1 _ hp91).1
  have hp105 : P97.2.1 3 = true := (hx102.1 _ hp92).1
  have hp106 : P97.2.1 4 = true := (hx102.1 _ hp93).1
  have hp107 : P97.2.1 5 = true := (hx102.1 _ hp94).1
  have hp108 : P97.2.1 6 = true := (hx102.1 _ hp95).1
  refine j_conv (lo' := [(2, .int y2), (0, .ref (P97.1 1)), (1, .int a1)]) (st' := [.ref (P97.1 6), .ref (P97.1 1)]) (by rw [(hx102.1 1 hp90).2] <;> rfl) (by rw [(hx102.1 1 hp90).2, (hx102.1 6 hp95).2] <;> rfl) ?_
  have hw109 : Pext P P97 := hw96.trans hx102
  refine r_putF (g := 1) (slot := 4) (x := 1) (ci := 11) (ty := .object "CoalForm$Settings") o hp103 rfl rfl (rfv_r (by decide)) rfl jin_X11 tyX11_ok nmX11 (by decide) rfl rfl rfl rfl jf_X11_55 (by decide +kernel) rfl rfl dX11_init_78 ?_
  refine j_aload_n o dX11_init_81 rfl ?_
  obtain ⟨hf110, h⟩ := h
  refine r_new (g := 7) (ci := 5) (fs := [.int 0, .int 0, .null, .null]) o rfl jin_X5 tyX5_ok iw_X11_59 (fun j hj => by rcases (show j = 0 ∨ j = 1 ∨ j = 2 ∨ j = 3 by omega) with rfl | rfl | rfl | rfl <;> rfl) hf110.hold (fun a tA e he => rnew_ob rfl rfl he) ⟨Nat.le_of_ble_eq_true rfl, Nat.le_of_ble_eq_true rfl⟩ dX11_init_82 (fun b111 => ?_)
  obtain ⟨P112, hP113⟩ : ∃ P9, P9 = pnew P97 7 b111 := ⟨_, rfl⟩
  rw [← hP113]
  replace h := h b111 P112 hP113
  have hx114 : Pext P97 P112 := (by rw [hP113]; exact Pext.new hf110.1)
  have hp115 : P112.2.1 1 = true := (hx114.1 _ hp103).1
  have hp116 : P112.2.1 2 = true := (hx114.1 _ hp104).1
  have hp117 : P112.2.1 3 = true := (hx114.1 _ hp105).1
  have hp118 : P112.2.1 4 = true := (hx114.1 _ hp106).1
  have hp119 : P112.2.1 5 = true := (hx114.1 _ hp107).1
  have hp120 : P112.2.1 6 = true := (hx114.1 _ hp108).1
  have hp121 : P112.2.1 7 = true := (by rw [hP113]; exact (pnew_at _ _ _).1)
  have hp121a : P112.1 7 = b111 := (show P112.1 7 = b111 by rw [hP113]; exact (pnew_at _ _ _).2)
  refine j_conv (lo' := [(2, .int y2), (0, .ref (P112.1 1)), (1, .int a1)]) (st' := [.ref (P112.1 7), .ref (P112.1 1)]) (by rw [(hx114.1 1 hp103).2] <;> rfl) (by rw [(hx114.1 1 hp103).2, hp121a] <;> rfl) ?_
  have hw122 : Pext P P112 := hw109.trans hx114
  refine j_dup o dX11_init_85 rfl ?_
  refine j_iload_n o dX11_init_86 rfl ?_
  refine j_callIZ o z (c_X5_init l P112 y2 (zM (upM M98 1 4 1) 7) (zN N99 7) _ h) dX11_init_87 rfl ic_X11_61 (jNm_2 ij_X5_init rfl) ⟨⟨Nat.le_of_ble_eq_true rfl, Nat.le_of_ble_eq_true rfl⟩, Nat.le_of_ble_eq_true rfl, Nat.le_of_ble_eq_true rfl⟩ (Nat.le_of_ble_eq_true rfl) rfl (fun v9 P123 M124 N125 hq126 => ?_)
  obtain ⟨rfl, hx127, h⟩ := hq126
  have hx128 : Pext P112 P123 := hx127
  have hp129 : P123.2.1 1 = true := (hx128.1 _ hp115).1
  have hp130 : P123.2.1 2 = true := (hx128.1 _ hp116).1
  have hp131 : P123.2.1 3 = true := (hx128.1 _ hp117).1
  have hp132 : P123.2.1 4 = true := (hx128.1 _ hp118).1
  have hp133 : P123.2.1 5 = true := (hx128.1 _ hp119).1
  have hp134 : P123.2.1 6 = true := (hx128.1 _ hp120).1
  have hp135 : P123.2.1 7 = true := (hx128.1 _ hp121).1
  refine j_conv (lo' := [(2, .int y2), (0, .ref (P123.1 1)), (1, .int a1)]) (st' := [.ref (P123.1 7), .ref (P123.1 1)]) (by rw [(hx128.1 1 hp115).2] <;> rfl) (by rw [(hx128.1 1 hp115).2, (hx128.1 7 hp121).2] <;> rfl) ?_
  have hw136 : Pext P P123 := hw122.trans hx128
  refine r_putF (g := 1) (slot := 5) (x := 1) (ci := 11) (ty := .object "CoalForm$People") o hp129 rfl rfl (rfv_r (by decide)) rfl jin_X11 tyX11_ok nmX11 (by decide) rfl rfl rfl rfl jf_X11_62 (by decide +kernel) rfl rfl dX11_init_90 ?_
  refine j_aload_n o dX11_init_93 rfl ?_
  obtain ⟨hf137, h⟩ := h
  refine r_new (g := 8) (ci := 0) (fs := [.null, .null, .null, .null, .null, .null, .null, .null, .int 0, .int 0, .int 0]) o rfl jin_X0 tyX0_ok iw_X11_66 (fun j hj => by rcases (show j = 0 ∨ j = 1 ∨ j = 2 ∨ j = 3 ∨ j = 4 ∨ j = 5 ∨ j = 6 ∨ j = 7 ∨ j = 8 ∨ j = 9 ∨ j = 10 by omega) with rfl | rfl | rfl | rfl | rfl | rfl | rfl | rfl | rfl | rfl | rfl <;> rfl) hf137.hold (fun a tA e he => rnew_ob rfl rfl he) ⟨Nat.le_of_ble_eq_true rfl, Nat.le_of_ble_eq_true rfl⟩ dX11_init_94 (fun b138 => ?_)
  obtain ⟨P139, hP140⟩ : ∃ P9, P9 = pnew P123 8 b138 := ⟨_, rfl⟩
  rw [← hP140]
  replace h := h b138 P139 hP140
  have hx141 : Pext P123 P139 := (by rw [hP140]; exact Pext.new hf137.1)
  have hp142 : P139.2.1 1 = true := (hx141.1 _ hp129).1
  have hp143 : P139.2.1 2 = true := (hx141.1 _ hp130).1
  have hp144 : P139.2.1 3 = true := (hx141.1 _ hp131).1
  have hp145 : P139.2.1 4 = true := (hx141.1 _ hp132).1
  have hp146 : P139.2.1 5 = true := (hx141.1 _ hp133).1
  have hp147 : P139.2.1 6 = true := (hx141.1 _ hp134).1
  have hp148 : P139.2.1 7 = true := (hx141.1 _ hp135).1
  have hp149 : P139.2.1 8 = true := (by rw [hP140]; exact (pnew_at _ _ _).1)
  have hp149a : P139.1 8 = b138 := (show P139.1 8 = b138 by rw [hP140]; exact (pnew_at _ _ _).2)
  refine j_conv (lo' := [(2, .int y2), (0, .ref (P139.1 1)), (1, .int a1)]) (st' := [.ref (P139.1 8), .ref (P139.1 1)]) (by rw [(hx141.1 1 hp129).2] <;> rfl) (by rw [(hx141.1 1 hp129).2, hp149a] <;> rfl) ?_
  have hw150 : Pext P P139 := hw136.trans hx141
  refine j_dup o dX11_init_97 rfl ?_
  refine j_aload_n o dX11_init_98 rfl ?_
  obtain ⟨hz151, h⟩ := h
  refine r_get (g := 1) (slot := 0) (ci := 11) (v := .ref (P139.1 2)) o hp142 rfl rfl (rfv_r0 (by decide) hz151) rfl jin_X11 (by decide) rfl jf_X11_23 dX11_init_99 ?_
  refine j_aload_n o dX11_init_102 rfl ?_
  obtain ⟨hz152, h⟩ := h
  refine r_get (g := 1) (slot := 4) (ci := 11) (v := .ref (P139.1 6)) o hp142 rfl rfl (rfv_r0 (by decide) hz152) rfl jin_X11 (by decide) rfl jf_X11_55 dX11_init_103 ?_
  refine j_aload_n o dX11_init_106 rfl ?_
  obtain ⟨hz153, h⟩ := h
  refine r_get (g := 1) (slot := 5) (ci := 11) (v := .ref (P139.1 7)) o hp142 rfl rfl (rfv_r0 (by decide) hz153) rfl jin_X11 (by decide) rfl jf_X11_62 dX11_init_107 ?_
  refine j_callI o (c_X0_init l P139  (zM (upM M124 1 5 1) 8) (zN N125 8) _ h) dX11_init_110 rfl ic_X11_68 (jNm_2 ij_X0_init rfl) ⟨⟨Nat.le_of_ble_eq_true rfl, Nat.le_of_ble_eq_true rfl⟩, Nat.le_of_ble_eq_true rfl, Nat.le_of_ble_eq_true rfl⟩ (Nat.le_of_ble_eq_true rfl) rfl (fun v9 P154 M155 N156 hq157 => ?_)
  obtain ⟨rfl, hx158, h⟩ := hq157
  have hx159 : Pext P139 P154 := hx158
  have hp160 : P154.2.1 1 = true := (hx159.1 _ hp142).1
  have hp161 : P154.2.1 2 = true := (hx159.1 _ hp143).1
  have hp162 : P154.2.1 3 = true := (hx159.1 _ hp144).1
  have hp163 : P154.2.1 4 = true := (hx159.1 _ hp145).1
  have hp164 : P154.2.1 5 = true := (hx159.1 _ hp146).1
  have hp165 : P154.2.1 6 = true := (hx159.1 _ hp147).1
  have hp166 : P154.2.1 7 = true := (hx159.1 _ hp148).1
  have hp167 : P154.2.1 8 = true := (hx159.1 _ hp149).1
  refine j_conv (lo' := [(2, .int y2), (0, .ref (P154.1 1)), (1, .int a1)]) (st' := [.ref (P154.1 8), .ref (P154.1 1)]) (by rw [(hx159.1 1 hp142).2] <;> rfl) (by rw [(hx159.1 1 hp142).2, (hx159.1 8 hp149).2] <;> rfl) ?_
  have hw168 : Pext P P154 := hw150.trans hx159
  refine r_putF (g := 1) (slot := 6) (x := 1) (ci := 11) (ty := .object "CoalForm$Asking") o hp160 rfl rfl (rfv_r (by decide)) rfl jin_X11 tyX11_ok nmX11 (by decide) rfl rfl rfl rfl jf_X11_71 (by decide +kernel) rfl rfl dX11_init_113 ?_
  refine j_aload_n o dX11_init_116 rfl ?_
  obtain ⟨hf169, h⟩ := h
  refine r_new (g := 9) (ci := 6) (fs := [.int 0, .null, .null, .null, .null, .null, .int 0]) o rfl jin_X6 tyX6_ok iw_X11_75 (fun j hj => by rcases (show j = 0 ∨ j = 1 ∨ j = 2 ∨ j = 3 ∨ j = 4 ∨ j = 5 ∨ j = 6 by omega) with rfl | rfl | rfl | rfl | rfl | rfl | rfl <;> rfl) hf169.hold (fun a tA e he => rnew_ob rfl rfl he) ⟨Nat.le_of_ble_eq_true rfl, Nat.le_of_ble_eq_true rfl⟩ dX11_init_117 (fun b170 => ?_)
  obtain ⟨P171, hP172⟩ : ∃ P9, P9 = pnew P154 9 b170 := ⟨_, rfl⟩
  rw [← hP172]
  replace h := h b170 P171 hP172
  have hx173 : Pext P154 P171 := (by rw [hP172]; exact Pext.new hf169.1)
  have hp174 : P171.2.1 1 = true := (hx173.1 _ hp160).1
  have hp175 : P171.2.1 2 = true := (hx173.1 _ hp161).1
  have hp176 : P171.2.1 3 = true := (hx173.1 _ hp162).1
  have hp177 : P171.2.1 4 = true := (hx173.1 _ hp163).1
  have hp178 : P171.2.1 5 = true := (hx173.1 _ hp164).1
  have hp179 : P171.2.1 6 = true := (hx173.1 _ hp165).1
  have hp180 : P171.2.1 7 = true := (hx173.1 _ hp166).1
  have hp181 : P171.2.1 8 = true := (hx173.1 _ hp167).1
  have hp182 : P171.2.1 9 = true := (by rw [hP172]; exact (pnew_at _ _ _).1)
  have hp182a : P171.1 9 = b170 := (show P171.1 9 = b170 by rw [hP172]; exact (pnew_at _ _ _).2)
  refine j_conv (lo' := [(2, .int y2), (0, .ref (P171.1 1)), (1, .int a1)]) (st' := [.ref (P171.1 9), .ref (P171.1 1)]) (by rw [(hx173.1 1 hp160).2] <;> rfl) (by rw [(hx173.1 1 hp160).2, hp182a] <;> rfl) ?_
  have hw183 : Pext P P171 := hw168.trans hx173
  refine j_dup o dX11_init_120 rfl ?_
  refine j_aload_n o dX11_init_121 rfl ?_
  obtain ⟨hz184, h⟩ := h
  refine r_get (g := 1) (slot := 0) (ci := 11) (v := .ref (P171.1 2)) o hp174 rfl rfl (rfv_r0 (by decide) hz184) rfl jin_X11 (by decide) rfl jf_X11_23 dX11_init_122 ?_
  refine r_get (g := 2) (slot := 2) (ci := 3) (v := .int ((zM (upM M155 1 6 1) 9) 2 2)) o hp175 rfl rfl rfl rfl jin_X3 (by decide) rfl jf_X11_77 dX11_init_125 ?_
  refine j_callI o (c_X6_init l P171 ((zM (upM M155 1 6 1) 9) 2 2) (zM (upM M155 1 6 1) 9) (zN N156 9) _ h) dX11_init_128 rfl ic_X11_81 (jNm_2 ij_X6_init rfl) ⟨⟨Nat.le_of_ble_eq_true rfl, Nat.le_of_ble_eq_true rfl⟩, Nat.le_of_ble_eq_true rfl, Nat.le_of_ble_eq_true rfl⟩ (Nat.le_of_ble_eq_true rfl) rfl (fun v9 P185 M186 N187 hq188 => ?_)
  obtain ⟨rfl, hx189, h⟩ := hq188
  have hx190 : Pext P171 P185 := hx189
  have hp191 : P185.2.1 1 = true := (hx190.1 _ hp174).1
  have hp192 : P185.2.1 2 = true := (hx190.1 _ hp175).1
  have hp193 : P185.2.1 3 = true := (hx190.1 _ hp176).1
  have hp194 : P185.2.1 4 = true := (hx190.1 _ hp177).1
  have hp195 : P185.2.1 5 = true := (hx190.1 _ hp178).1
  have hp196 : P185.2.1 6 = true := (hx190.1 _ hp179).1
  have hp197 : P185.2.1 7 = true := (hx190.1 _ hp180).1
  have hp198 : P185.2.1 8 = true := (hx190.1 _ hp181).1
  have hp199 : P185.2.1 9 = true := (hx190.1 _ hp182).1
  refine j_conv (lo' := [(2, .int y2), (0, .ref (P185.1 1)), (1, .int a1)]) (st' := [.ref (P185.1 9), .ref (P185.1 1)]) (by rw [(hx190.1 1 hp174).2] <;> rfl) (by rw [(hx190.1 1 hp174).2, (hx190.1 9 hp182).2] <;> rfl) ?_
  have hw200 : Pext P P185 := hw183.trans hx190
  refine r_putF (g := 1) (slot := 7) (x := 1) (ci := 11) (ty := .object "CoalForm$Questions") o hp191 rfl rfl (rfv_r (by decide)) rfl jin_X11 tyX11_ok nmX11 (by decide) rfl rfl rfl rfl jf_X11_82 (by decide +kernel) rfl rfl dX11_init_131 ?_
  refine j_aload_n o dX11_init_134 rfl ?_
  obtain ⟨hf201, h⟩ := h
  refine r_new (g := 10) (ci := 8) (fs := [.int 0, .null, .null]) o rfl jin_X8 tyX8_ok iw_X11_86 (fun j hj => by rcases (show j = 0 ∨ j = 1 ∨ j = 2 by omega) with rfl | rfl | rfl <;> rfl) hf201.hold (fun a tA e he => rnew_ob rfl rfl he) ⟨Nat.le_of_ble_eq_true rfl, Nat.le_of_ble_eq_true rfl⟩ dX11_init_135 (fun b202 => ?_)
  obtain ⟨P203, hP204⟩ : ∃ P9, P9 = pnew P185 10 b202 := ⟨_, rfl⟩
  rw [← hP204]
  replace h := h b202 P203 hP204
  have hx205 : Pext P185 P203 := (by rw [hP204]; exact Pext.new hf201.1)
  have hp206 : P203.2.1 1 = true := (hx205.1 _ hp191).1
  have hp207 : P203.2.1 2 = true := (hx205.1 _ hp192).1
  have hp208 : P203.2.1 3 = true := (hx205.1 _ hp193).1
  have hp209 : P203.2.1 4 = true := (hx205.1 _ hp194).1
  have hp210 : P203.2.1 5 = true := (hx205.1 _ hp195).1
  have hp211 : P203.2.1 6 = true := (hx205.1 _ hp196).1
  have hp212 : P203.2.1 7 = true := (hx205.1 _ hp197).1
  have hp213 : P203.2.1 8 = true := (hx205.1 _ hp198).1
  have hp214 : P203.2.1 9 = true := (hx205.1 _ hp199).1
  have hp215 : P203.2.1 10 = true := (by rw [hP204]; exact (pnew_at _ _ _).1)
  have hp215a : P203.1 10 = b202 := (show P203.1 10 = b202 by rw [hP204]; exact (pnew_at _ _ _).2)
  refine j_conv (lo' := [(2, .int y2), (0, .ref (P203.1 1)), (1, .int a1)]) (st' := [.ref (P203.1 10), .ref (P203.1 1)]) (by rw [(hx205.1 1 hp191).2] <;> rfl) (by rw [(hx205.1 1 hp191).2, hp215a] <;> rfl) ?_
  have hw216 : Pext P P203 := hw200.trans hx205
  refine j_dup o dX11_init_138 rfl ?_
  refine j_callIN o (c_X8_init l P203  (zM (upM M186 1 7 1) 10) (zN N187 10) _ h) dX11_init_139 rfl ic_X11_88 iq_X11_88 (jNm_2 ij_X8_init rfl) ⟨⟨Nat.le_of_ble_eq_true rfl, Nat.le_of_ble_eq_true rfl⟩, Nat.le_of_ble_eq_true rfl, Nat.le_of_ble_eq_true rfl⟩ (Nat.le_of_ble_eq_true rfl) rfl (fun v9 P217 M218 N219 hq220 => ?_)
  obtain ⟨rfl, hx221, h⟩ := hq220
  have hx222 : Pext P203 P217 := hx221
  have hp223 : P217.2.1 1 = true := (hx222.1 _ hp206).1
  have hp224 : P217.2.1 2 = true := (hx222.1 _ hp207).1
  have hp225 : P217.2.1 3 = true := (hx222.1 _ hp208).1
  have hp226 : P217.2.1 4 = true := (hx222.1 _ hp209).1
  have hp227 : P217.2.1 5 = true := (hx222.1 _ hp210).1
  have hp228 : P217.2.1 6 = true := (hx222.1 _ hp211).1
  have hp229 : P217.2.1 7 = true := (hx222.1 _ hp212).1
  have hp230 : P217.2.1 8 = true := (hx222.1 _ hp213).1
  have hp231 : P217.2.1 9 = true := (hx222.1 _ hp214).1
  have hp232 : P217.2.1 10 = true := (hx222.1 _ hp215).1
  refine j_conv (lo' := [(2, .int y2), (0, .ref (P217.1 1)), (1, .int a1)]) (st' := [.ref (P217.1 10), .ref (P217.1 1)]) (by rw [(hx222.1 1 hp206).2] <;> rfl) (by rw [(hx222.1 1 hp206).2, (hx222.1 10 hp215).2] <;> rfl) ?_
  have hw233 : Pext P P217 := hw216.trans hx222
  refine r_putF (g := 1) (slot := 8) (x := 1) (ci := 11) (ty := .object "CoalForm$Rulings") o hp223 rfl rfl (rfv_r (by decide)) rfl jin_X11 tyX11_ok nmX11 (by decide) rfl rfl rfl rfl jf_X11_89 (by decide +kernel) rfl rfl dX11_init_142 ?_
  refine j_aload_n o dX11_init_145 rfl ?_
  refine j_bipush o (v := 6) dX11_init_146 rfl ?_
  obtain ⟨hf234, h⟩ := h
  refine r_anew (g := 11) (ti := 4) (nn := 6) (C := "CoalForm$Law") o z (fun _ => rfl) (iv_X11_93 _ List.mem_cons_self) (fun U h => h.1) rfl (Nat.le_of_ble_eq_true rfl) hf234.hold (fun a tA e he => rnew_ar rfl rfl he) ⟨Nat.le_of_ble_eq_true rfl, Nat.le_of_ble_eq_true rfl⟩ dX11_init_148 (fun b235 => ?_)
  obtain ⟨P236, hP237⟩ : ∃ P9, P9 = pnew P217 11 b235 := ⟨_, rfl⟩
  rw [← hP237]
  replace h := h b235 P236 hP237
  have hx238 : Pext P217 P236 := (by rw [hP237]; exact Pext.new hf234.1)
  have hp239 : P236.2.1 1 = true := (hx238.1 _ hp223).1
  have hp240 : P236.2.1 2 = true := (hx238.1 _ hp224).1
  have hp241 : P236.2.1 3 = true := (hx238.1 _ hp225).1
  have hp242 : P236.2.1 4 = true := (hx238.1 _ hp226).1
  have hp243 : P236.2.1 5 = true := (hx238.1 _ hp227).1
  have hp244 : P236.2.1 6 = true := (hx238.1 _ hp228).1
  have hp245 : P236.2.1 7 = true := (hx238.1 _ hp229).1
  have hp246 : P236.2.1 8 = true := (hx238.1 _ hp230).1
  have hp247 : P236.2.1 9 = true := (hx238.1 _ hp231).1
  have hp248 : P236.2.1 10 = true := (hx238.1 _ hp232).1
  have hp249 : P236.2.1 11 = true := (by rw [hP237]; exact (pnew_at _ _ _).1)
  have hp249a : P236.1 11 = b235 := (show P236.1 11 = b235 by rw [hP237]; exact (pnew_at _ _ _).2)
  refine j_conv (lo' := [(2, .int y2), (0, .ref (P236.1 1)), (1, .int a1)]) (st' := [.ref (P236.1 11), .ref (P236.1 1)]) (by rw [(hx238.1 1 hp223).2] <;> rfl) (by rw [(hx238.1 1 hp223).2, hp249a] <;> rfl) ?_
  have hw250 : Pext P P236 := hw233.trans hx238
  refine r_putF (g := 1) (slot := 9) (x := 1) (ci := 11) (ty := .array (.object "CoalForm$Law")) o hp239 rfl rfl (rfv_r (by decide)) rfl jin_X11 tyX11_ok nmX11 (by decide) rfl rfl rfl rfl jf_X11_95 (by decide +kernel) rfl rfl dX11_init_151 ?_
  refine j_nameM (fun M251 hM251 => ?_)
  replace h := h M251 hM251
  refine j_aload_n o dX11_init_154 rfl ?_
  refine j_bipush o (v := 6) dX11_init_155 rfl ?_
  obtain ⟨hf252, h⟩ := h
  refine r_anew (g := 12) (ti := 5) (nn := 6) (C := "CoalForm$Form") o z (fun _ => rfl) (iv_X11_99 _ List.mem_cons_self) (fun U h => h.2.1) rfl (Nat.le_of_ble_eq_true rfl) hf252.hold (fun a tA e he => rnew_ar rfl rfl he) ⟨Nat.le_of_ble_eq_true rfl, Nat.le_of_ble_eq_true rfl⟩ dX11_init_157 (fun b253 => ?_)
  obtain ⟨P254, hP255⟩ : ∃ P9, P9 = pnew P236 12 b253 := ⟨_, rfl⟩
  rw [← hP255]
  replace h := h b253 P254 hP255
  have hx256 : Pext P236 P254 := (by rw [hP255]; exact Pext.new hf252.1)
  have hp257 : P254.2.1 1 = true := (hx256.1 _ hp239).1
  have hp258 : P254.2.1 2 = true := (hx256.1 _ hp240).1
  have hp259 : P254.2.1 3 = true := (hx256.1 _ hp241).1
  have hp260 : P254.2.1 4 = true := (hx256.1 _ hp242).1
  have hp261 : P254.2.1 5 = true := (hx256.1 _ hp243).1
  have hp262 : P254.2.1 6 = true := (hx256.1 _ hp244).1
  have hp263 : P254.2.1 7 = true := (hx256.1 _ hp245).1
  have hp264 : P254.2.1 8 = true := (hx256.1 _ hp246).1
  have hp265 : P254.2.1 9 = true := (hx256.1 _ hp247).1
  have hp266 : P254.2.1 10 = true := (hx256.1 _ hp248).1
  have hp267 : P254.2.1 11 = true := (hx256.1 _ hp249).1
  have hp268 : P254.2.1 12 = true := (by rw [hP255]; exact (pnew_at _ _ _).1)
  have hp268a : P254.1 12 = b253 := (show P254.1 12 = b253 by rw [hP255]; exact (pnew_at _ _ _).2)
  refine j_conv (lo' := [(2, .int y2), (0, .ref (P254.1 1)), (1, .int a1)]) (st' := [.ref (P254.1 12), .ref (P254.1 1)]) (by rw [(hx256.1 1 hp239).2] <;> rfl) (by rw [(hx256.1 1 hp239).2, hp268a] <;> rfl) ?_
  have hw269 : Pext P P254 := hw250.trans hx256
  refine r_putF (g := 1) (slot := 11) (x := 1) (ci := 11) (ty := .array (.object "CoalForm$Form")) o hp257 rfl rfl (rfv_r (by decide)) rfl jin_X11 tyX11_ok nmX11 (by decide) rfl rfl rfl rfl jf_X11_101 (by decide +kernel) rfl rfl dX11_init_160 ?_
  refine j_aload_n o dX11_init_163 rfl ?_
  refine j_aload_n o dX11_init_164 rfl ?_
  obtain ⟨hz270, h⟩ := h
  refine r_get (g := 1) (slot := 0) (ci := 11) (v := .ref (P254.1 2)) o hp257 rfl rfl (rfv_r0 (by decide) hz270) rfl jin_X11 (by decide) rfl jf_X11_23 dX11_init_165 ?_
  refine r_get (g := 2) (slot := 2) (ci := 3) (v := .int ((upM (zM M251 12) 1 11 1) 2 2)) o hp258 rfl rfl rfl rfl jin_X3 (by decide) rfl jf_X11_77 dX11_init_168 ?_
  obtain ⟨hf271, h⟩ := h
  obtain ⟨hn272, h⟩ := h
  obtain ⟨hb273, h⟩ := h
  refine r_newarr (g := 13) (ti := 0) (nn := P254.2.2 1) (B := 512) (atype := .int) (ty := .int) (a0 := (P254.2.2 1, .inl (fun _ => 0))) o rfl (fun _ => rfl) (fun _ _ h => h) (fun _ => rfl) (iz_int _ List.mem_cons_self) hn272 hb273 (Nat.le_of_ble_eq_true rfl) (Nat.le_of_ble_eq_true rfl) hf271.hold (fun a tA e he => rnew_ar rfl rfl he) ⟨Nat.le_of_ble_eq_true rfl, Nat.le_of_ble_eq_true rfl⟩ dX11_init_171 (fun b274 => ?_)
  obtain ⟨P275, hP276⟩ : ∃ P9, P9 = pnew P254 13 b274 := ⟨_, rfl⟩
  rw [← hP276]
  replace h := h b274 P275 hP276
  have hx277 : Pext P254 P275 := (by rw [hP276]; exact Pext.new hf271.1)
  have hp278 : P275.2.1 1 = true := (hx277.1 _ hp257).1
  have hp279 : P275.2.1 2 = true := (hx277.1 _ hp258).1
  have hp280 : P275.2.1 3 = true := (hx277.1 _ hp259).1
  have hp281 : P275.2.1 4 = true := (hx277.1 _ hp260).1
  have hp282 : P275.2.1 5 = true := (hx277.1 _ hp261).1
  have hp283 : P275.2.1 6 = true := (hx277.1 _ hp262).1
  have hp284 : P275.2.1 7 = true := (hx277.1 _ hp263).1
  have hp285 : P275.2.1 8 = true := (hx277.1 _ hp264).1
  have hp286 : P275.2.1 9 = true := (hx277.1 _ hp265).1
  have hp287 : P275.2.1 10 = true := (hx277.1 _ hp266).1
  have hp288 : P275.2.1 11 = true := (hx277.1 _ hp267).1
  have hp289 : P275.2.1 12 = true := (hx277.1 _ hp268).1
  have hp290 : P275.2.1 13 = true := (by rw [hP276]; exact (pnew_at _ _ _).1)
  have hp290a : P275.1 13 = b274 := (show P275.1 13 = b274 by rw [hP276]; exact (pnew_at _ _ _).2)
  refine j_conv (lo' := [(2, .int y2), (0, .ref (P275.1 1)), (1, .int a1)]) (st' := [.ref (P275.1 13), .ref (P275.1 1)]) (by rw [(hx277.1 1 hp257).2] <;> rfl) (by rw [(hx277.1 1 hp257).2, hp290a] <;> rfl) ?_
  have hw291 : Pext P P275 := hw269.trans hx277
  refine j_nameM (fun M292 hM292 => ?_)
  replace h := h M292 hM292
  refine j_nameN (fun N293 hN293 => ?_)
  replace h := h N293 hN293
  refine r_putF (g := 1) (slot := 13) (x := 1) (ci := 11) (ty := .array .int) o hp278 rfl rfl (rfv_r (by decide)) rfl jin_X11 tyX11_ok nmX11 (by decide) rfl rfl rfl rfl jf_X11_105 (by decide +kernel) rfl rfl dX11_init_173 ?_
  refine j_aload_n o dX11_init_176 rfl ?_
  refine j_bipush o (v := 12) dX11_init_177 rfl ?_
  obtain ⟨hf294, h⟩ := h
  refine r_newarr (g := 14) (ti := 1) (nn := 12) (B := 12) (atype := .long) (ty := .long) (a0 := (12, .inr (.inl (fun _ => 0)))) o rfl (fun _ => rfl) (fun _ _ h => h) (fun _ => rfl) (iz_long _ List.mem_cons_self) rfl (Nat.le_refl _) (Nat.le_of_ble_eq_true rfl) (Nat.le_of_ble_eq_true rfl) hf294.hold (fun a tA e he => rnew_ar rfl rfl he) ⟨Nat.le_of_ble_eq_true rfl, Nat.le_of_ble_eq_true rfl⟩ dX11_init_179 (fun b295 => ?_)
  obtain ⟨P296, hP297⟩ : ∃ P9, P9 = pnew P275 14 b295 := ⟨_, rfl⟩
  rw [← hP297]
  replace h := h b295 P296 hP297
  have hx298 : Pext P275 P296 := (by rw [hP297]; exact Pext.new hf294.1)
  have hp299 : P296.2.1 1 = true := (hx298.1 _ hp278).1
  have hp300 : P296.2.1 2 = true := (hx298.1 _ hp279).1
  have hp301 : P296.2.1 3 = true := (hx298.1 _ hp280).1
  have hp302 : P296.2.1 4 = true := (hx298.1 _ hp281).1
  have hp303 : P296.2.1 5 = true := (hx298.1 _ hp282).1
  have hp304 : P296.2.1 6 = true := (hx298.1 _ hp283).1
  have hp305 : P296.2.1 7 = true := (hx298.1 _ hp284).1
  have hp306 : P296.2.1 8 = true := (hx298.1 _ hp285).1
  have hp307 : P296.2.1 9 = true := (hx298.1 _ hp286).1
  have hp308 : P296.2.1 10 = true := (hx298.1 _ hp287).1
  have hp309 : P296.2.1 11 = true := (hx298.1 _ hp288).1
  have hp310 : P296.2.1 12 = true := (hx298.1 _ hp289).1
  have hp311 : P296.2.1 13 = true := (hx298.1 _ hp290).1
  have hp312 : P296.2.1 14 = true := (by rw [hP297]; exact (pnew_at _ _ _).1)
  have hp312a : P296.1 14 = b295 := (show P296.1 14 = b295 by rw [hP297]; exact (pnew_at _ _ _).2)
  refine j_conv (lo' := [(2, .int y2), (0, .ref (P296.1 1)), (1, .int a1)]) (st' := [.ref (P296.1 14), .ref (P296.1 1)]) (by rw [(hx298.1 1 hp278).2] <;> rfl) (by rw [(hx298.1 1 hp278).2, hp312a] <;> rfl) ?_
  have hw313 : Pext P P296 := hw291.trans hx298
  refine r_putF (g := 1) (slot := 14) (x := 1) (ci := 11) (ty := .array .long) o hp299 rfl rfl (rfv_r (by decide)) rfl jin_X11 tyX11_ok nmX11 (by decide) rfl rfl rfl rfl jf_X11_109 (by decide +kernel) rfl rfl dX11_init_181 ?_
  refine j_nameM (fun M314 hM314 => ?_)
  replace h := h M314 hM314
  rw [hE]
  exact j_vret o dX11_init_184 ⟨rfl, hw313, h⟩

abbrev rm_X12_init : Room := { frames := 1, cells := 28, slots := 1067131, locals := 40 }
def w_X12_init (P : jP) (a1 : Int32) (M : jM) (N : jN) (Q : jP → jM → jN → Prop) : Prop :=
  P.2.1 1 = true ∧
  rfree mob LM P M 2 ∧
  ∀ b3 : Nat,
  ∀ P4 : jP, P4 = pnew P 2 b3 →
  rfree mob LM P4 (upM (zM M 2) 1 3 1) 3 ∧
  ∀ b11 : Nat,
  ∀ P12 : jP, P12 = pnew P4 3 b11 →
  ∀ M19 : jM, M19 = zM (upM (zM M 2) 1 3 1) 3 →
  rfree mob LM P12 (upM M19 1 9 1) 4 ∧
  ∀ b21 : Nat,
  ∀ P22 : jP, P22 = pnew P12 4 b21 →
  ∀ M30 : jM, M30 = upM (zM (upM M19 1 9 1) 4) 1 12 1 →
  rfree mob LM P22 M30 5 ∧
  ∀ b32 : Nat,
  ∀ P33 : jP, P33 = pnew P22 5 b32 →
  ∀ N42 : jN, N42 = zN (zN (zN (zN N 2) 3) 4) 5 →
  rfree mob LM P33 (upM (zM M30 5) 1 13 1) 6 ∧
  ∀ b44 : Nat,
  ∀ P45 : jP, P45 = pnew P33 6 b44 →
  ∀ M55 : jM, M55 = zM (upM (zM M30 5) 1 13 1) 6 →
  rfree mob LM P45 (upM M55 1 14 1) 7 ∧
  ∀ b57 : Nat,
  ∀ P58 : jP, P58 = pnew P45 7 b57 →
  ∀ M69 : jM, M69 = upM (zM (upM M55 1 14 1) 7) 1 15 1 →
  rfree mob LM P58 M69 8 ∧
  ∀ b71 : Nat,
  ∀ P72 : jP, P72 = pnew P58 8 b71 →
  rfree mob LM P72 (upM (zM M69 8) 1 17 1) 9 ∧
  ∀ b85 : Nat,
  ∀ P86 : jP, P86 = pnew P72 9 b85 →
  ∀ M99 : jM, M99 = zM (upM (zM M69 8) 1 17 1) 9 →
  ∀ N100 : jN, N100 = zN (zN (zN (zN N42 6) 7) 8) 9 →
  rfree mob LM P86 (upM M99 1 18 1) 10 ∧
  ∀ b102 : Nat,
  ∀ P103 : jP, P103 = pnew P86 10 b102 →
  ∀ M117 : jM, M117 = upM (zM (upM M99 1 18 1) 10) 1 19 1 →
  rfree mob LM P103 M117 11 ∧
  ∀ b119 : Nat,
  ∀ P120 : jP, P120 = pnew P103 11 b119 →
  rfree mob LM P120 (upM (zM M117 11) 1 20 1) 12 ∧
  ∀ b136 : Nat,
  ∀ P137 : jP, P137 = pnew P120 12 b136 →
  ∀ M153 : jM, M153 = zM (upM (zM M117 11) 1 20 1) 12 →
  ∀ N154 : jN, N154 = zN (zN (zN N100 10) 11) 12 →
  rfree mob LM P137 (upM M153 1 21 1) 13 ∧
  ∀ b156 : Nat,
  ∀ P157 : jP, P157 = pnew P137 13 b156 →
  ∀ M174 : jM, M174 = upM (zM (upM M153 1 21 1) 13) 1 22 1 →
  rfree mob LM P157 M174 14 ∧
  ∀ b176 : Nat,
  ∀ P177 : jP, P177 = pnew P157 14 b176 →
  rfree mob LM P177 (upM (zM M174 14) 1 23 1) 15 ∧
  ∀ b196 : Nat,
  ∀ P197 : jP, P197 = pnew P177 15 b196 →
  ∀ M216 : jM, M216 = zM (upM (zM M174 14) 1 23 1) 15 →
  ∀ N217 : jN, N217 = zN (zN (zN N154 13) 14) 15 →
  rfree mob LM P197 (upM M216 1 24 1) 16 ∧
  ∀ b219 : Nat,
  ∀ P220 : jP, P220 = pnew P197 16 b219 →
  ∀ M240 : jM, M240 = upM (zM (upM M216 1 24 1) 16) 1 28 1 →
  rfree mob LM P220 M240 17 ∧
  ∀ b242 : Nat,
  ∀ P243 : jP, P243 = pnew P220 17 b242 →
  rfree mob LM P243 (upM (zM M240 17) 1 29 1) 18 ∧
  ∀ b265 : Nat,
  ∀ P266 : jP, P266 = pnew P243 18 b265 →
  ∀ M288 : jM, M288 = zM (upM (zM M240 17) 1 29 1) 18 →
  ∀ N289 : jN, N289 = zN (zN (zN N217 16) 17) 18 →
  rfree mob LM P266 (upM M288 1 30 1) 19 ∧
  ∀ b291 : Nat,
  ∀ P292 : jP, P292 = pnew P266 19 b291 →
  ∀ M315 : jM, M315 = upM (zM (upM M288 1 30 1) 19) 1 32 1 →
  rfree mob LM P292 M315 20 ∧
  ∀ b317 : Nat,
  ∀ P318 : jP, P318 = pnew P292 20 b317 →
  rfree mob LM P318 (upM (zM M315 20) 1 33 1) 21 ∧
  ∀ b343 : Nat,
  ∀ P344 : jP, P344 = pnew P318 21 b343 →
  ∀ M369 : jM, M369 = zM (upM (zM M315 20) 1 33 1) 21 →
  ∀ N370 : jN, N370 = zN (zN (zN N289 19) 20) 21 →
  rfree mob LM P344 (upM M369 1 34 1) 22 ∧
  ∀ b372 : Nat,
  ∀ P373 : jP, P373 = pnew P344 22 b372 →
  ∀ M399 : jM, M399 = upM (zM (upM M369 1 34 1) 22) 1 35 1 →
  rfree mob LM P373 M399 23 ∧
  ∀ b401 : Nat,
  ∀ P402 : jP, P402 = pnew P373 23 b401 →
  rfree mob LM P402 (upM (zM M399 23) 1 36 1) 24 ∧
  ∀ b430 : Nat,
  ∀ P431 : jP, P431 = pnew P402 24 b430 →
  ∀ M459 : jM, M459 = zM (upM (zM M399 23) 1 36 1) 24 →
  ∀ N460 : jN, N460 = zN (zN (zN N370 22) 23) 24 →
  rfree mob LM P431 (upM M459 1 38 1) 25 ∧
  ∀ b462 : Nat,
  ∀ P463 : jP, P463 = pnew P431 25 b462 →
  ∀ M492 : jM, M492 = upM (zM (upM M459 1 38 1) 25) 1 39 1 →
  rfree mob LM P463 M492 26 ∧
  ∀ b494 : Nat,
  ∀ P495 : jP, P495 = pnew P463 26 b494 →
  rfree mob LM P495 (upM (zM M492 26) 1 40 1) 27 ∧
  ∀ b526 : Nat,
  ∀ P527 : jP, P527 = pnew P495 27 b526 →
  ∀ M558 : jM, M558 = zM (upM (zM M492 26) 1 40 1) 27 →
  ∀ N559 : jN, N559 = zN (zN (zN N460 25) 26) 27 →
  rfree mob LM P527 (upM M558 1 41 1) 28 ∧
  ∀ b561 : Nat,
  ∀ P562 : jP, P562 = pnew P527 28 b561 →
  ∀ M594 : jM, M594 = upM (zM (upM M558 1 41 1) 28) 1 42 1 →
  rfree mob LM P562 M594 29 ∧
  ∀ b596 : Nat,
  ∀ P597 : jP, P597 = pnew P562 29 b596 →
  ∀ M630 : jM, M630 = upM (upM (zM M594 29) 1 43 1) 1 1 (if 1 < (if a1 < 9 then a1 else 9) then (if a1 < 9 then a1 else 9) else 1) →
  ∀ M631 : jM, M631 = upM M630 1 2 ((1 : Int32) <<< ((M630 1 1) &&& 31)) →
  ∀ R261 : Int32 → jM → Prop, (∀ (x632 : Int32) (M633 : jM), (
   (9 ≤ x632 → (
    ∀ R282 : Int32 → jM → Prop, (∀ (x635 : Int32) (M636 : jM), (
     (10 ≤ x635 → (
      Q P597 M636 (zN (zN N559 28) 29)
     )) ∧ (¬ 10 ≤ x635 → (
      ¬ M636 1 22 = 0 ∧
      vp_in x635 (10) ∧
      ∀ M640 : jM, M640 = upM M636 13 x635.toNatClampNeg 1 →
      R282 (x635 + 1) M640
     ))
    ) → R282 x635 M636) →
    R282 0 M633
   )) ∧ (¬ 9 ≤ x632 → (
    ¬ M633 1 21 = 0 ∧
    vp_in x632 (9) ∧
    ∀ M643 : jM, M643 = upM M633 12 x632.toNatClampNeg 1 →
    R261 (x632 + 1) M643
   ))
  ) → R261 x632 M633) →
  R261 0 M631
set_option maxRecDepth 20000 in
theorem c_X12_init (l : Launch) (P : jP) (a1 : Int32) (M : jM) (N : jN) (Q : jP → jM → jN → Prop) (h : w_X12_init P a1 M N Q) : jC l yX12_init cX12_init 3 none rm_X12_init LMK [.ref (P.1 1), .int a1] P M N (jqp P Q) := by
  refine jC_of (by decide +kernel) [(0, .ref (P.1 1)), (1, .int a1)] (Nat.le_of_ble_eq_true rfl) rfl (fun X o  => ?_)
  obtain ⟨E, hE⟩ : ∃ E, E = jE X rm_X12_init (jqp P Q) := ⟨_, rfl⟩
  rw [← hE]
  unfold w_X12_init at h
  obtain ⟨hp1, h⟩ := h
  refine j_aload_n o dX12_init_0 rfl ?_
  refine j_objInit o io_X12_1 ⟨Nat.le_of_ble_eq_true rfl, Nat.le_of_ble_eq_true rfl⟩ dX12_init_1 ?_
  refine j_aload_n o dX12_init_4 rfl ?_
  refine j_sipush o (v := 160) dX12_init_5 rfl ?_
  obtain ⟨hf2, h⟩ := h
  refine r_newarr (g := 2) (ti := 3) (nn := 160) (B := 160) (atype := .byte) (ty := .byte) (a0 := (160, .inl (fun _ => 0))) o rfl (fun _ => rfl) (fun _ _ h => h) (fun _ => rfl) (iz_byte _ List.mem_cons_self) rfl (Nat.le_refl _) (Nat.le_of_ble_eq_true rfl) (Nat.le_of_ble_eq_true rfl) hf2.hold (fun a tA e he => rnew_ar rfl rfl he) ⟨Nat.le_of_ble_eq_true rfl, Nat.le_of_ble_eq_true rfl⟩ dX12_init_8 (fun b3 => ?_)
  obtain ⟨P4, hP5⟩ : ∃ P9, P9 = pnew P 2 b3 := ⟨_, rfl⟩
  rw [← hP5]
  replace h := h b3 P4 hP5
  have hx6 : Pext P P4 := (by rw [hP5]; exact Pext.new hf2.1)
  have hp7 : P4.2.1 1 = true := (hx6.1 _ hp1).1
  have hp8 : P4.2.1 2 = true := (by rw [hP5]; exact (pnew_at _ _ _).1)
  have hp8a : P4.1 2 = b3 := (show P4.1 2 = b3 by rw [hP5]; exact (pnew_at _ _ _).2)
  refine j_conv (lo' := [(0, .ref (P4.1 1)), (1, .int a1)]) (st' := [.ref (P4.1 2), .ref (P4.1 1)]) (by rw [(hx6.1 1 hp1).2] <;> rfl) (by rw [(hx6.1 1 hp1).2, hp8a] <;> rfl) ?_
  have hw9 : Pext P P4 := hx6
  refine r_putF (g := 1) (slot := 3) (x := 1) (ci := 12) (ty := .array .byte) o hp7 rfl rfl (rfv_r (by decide)) rfl jin_X12 tyX12_ok nmX12 (by decide) rfl rfl rfl rfl jf_X12_9 (by decide +kernel) rfl rfl dX12_init_10 ?_
  refine j_aload_n o dX12_init_13 rfl ?_
  refine j_bipush o (v := 12) dX12_init_14 rfl ?_
  obtain ⟨hf10, h⟩ := h
  refine r_newarr (g := 3) (ti := 0) (nn := 12) (B := 12) (atype := .int) (ty := .int) (a0 := (12, .inl (fun _ => 0))) o rfl (fun _ => rfl) (fun _ _ h => h) (fun _ => rfl) (iz_int _ List.mem_cons_self) rfl (Nat.le_refl _) (Nat.le_of_ble_eq_true rfl) (Nat.le_of_ble_eq_true rfl) hf10.hold (fun a tA e he => rnew_ar rfl rfl he) ⟨Nat.le_of_ble_eq_true rfl, Nat.le_of_ble_eq_true rfl⟩ dX12_init_16 (fun b11 => ?_)
  obtain ⟨P12, hP13⟩ : ∃ P9, P9 = pnew P4 3 b11 := ⟨_, rfl⟩
  rw [← hP13]
  replace h := h b11 P12 hP13
  have hx14 : Pext P4 P12 := (by rw [hP13]; exact Pext.new hf10.1)
  have hp15 : P12.2.1 1 = true := (hx14.1 _ hp7).1
  have hp16 : P12.2.1 2 = true := (hx14.1 _ hp8).1
  have hp17 : P12.2.1 3 = true := (by rw [hP13]; exact (pnew_at _ _ _).1)
  have hp17a : P12.1 3 = b11 := (show P12.1 3 = b11 by rw [hP13]; exact (pnew_at _ _ _).2)
  refine j_conv (lo' := [(0, .ref (P12.1 1)), (1, .int a1)]) (st' := [.ref (P12.1 3), .ref (P12.1 1)]) (by rw [(hx14.1 1 hp7).2] <;> rfl) (by rw [(hx14.1 1 hp7).2, hp17a] <;> rfl) ?_
  have hw18 : Pext P P12 := hw9.trans hx14
  refine j_nameM (fun M19 hM19 => ?_)
  replace h := h M19 hM19
  refine r_putF (g := 1) (slot := 9) (x := 1) (ci := 12) (ty := .array .int) o hp15 rfl rfl (rfv_r (by decide)) rfl jin_X12 tyX12_ok nmX12 (by decide) rfl rfl rfl rfl jf_X12_13 (by decide +kernel) rfl rfl dX12_init_18 ?_
  refine j_aload_n o dX12_init_21 rfl ?_
  refine j_bipush o (v := 84) dX12_init_22 rfl ?_
  obtain ⟨hf20, h⟩ := h
  refine r_newarr (g := 4) (ti := 0) (nn := 84) (B := 84) (atype := .int) (ty := .int) (a0 := (84, .inl (fun _ => 0))) o rfl (fun _ => rfl) (fun _ _ h => h) (fun _ => rfl) (iz_int _ List.mem_cons_self) rfl (Nat.le_refl _) (Nat.le_of_ble_eq_true rfl) (Nat.le_of_ble_eq_true rfl) hf20.hold (fun a tA e he => rnew_ar rfl rfl he) ⟨Nat.le_of_ble_eq_true rfl, Nat.le_of_ble_eq_true rfl⟩ dX12_init_24 (fun b21 => ?_)
  obtain ⟨P22, hP23⟩ : ∃ P9, P9 = pnew P12 4 b21 := ⟨_, rfl⟩
  rw [← hP23]
  replace h := h b21 P22 hP23
  have hx24 : Pext P12 P22 := (by rw [hP23]; exact Pext.new hf20.1)
  have hp25 : P22.2.1 1 = true := (hx24.1 _ hp15).1
  have hp26 : P22.2.1 2 = true := (hx24.1 _ hp16).1
  have hp27 : P22.2.1 3 = true := (hx24.1 _ hp17).1
  have hp28 : P22.2.1 4 = true := (by rw [hP23]; exact (pnew_at _ _ _).1)
  have hp28a : P22.1 4 = b21 := (show P22.1 4 = b21 by rw [hP23]; exact (pnew_at _ _ _).2)
  refine j_conv (lo' := [(0, .ref (P22.1 1)), (1, .int a1)]) (st' := [.ref (P22.1 4), .ref (P22.1 1)]) (by rw [(hx24.1 1 hp15).2] <;> rfl) (by rw [(hx24.1 1 hp15).2, hp28a] <;> rfl) ?_
  have hw29 : Pext P P22 := hw18.trans hx24
  refine r_putF (g := 1) (slot := 12) (x := 1) (ci := 12) (ty := .array .int) o hp25 rfl rfl (rfv_r (by decide)) rfl jin_X12 tyX12_ok nmX12 (by decide) rfl rfl rfl rfl jf_X12_17 (by decide +kernel) rfl rfl dX12_init_26 ?_
  refine j_nameM (fun M30 hM30 => ?_)
  replace h := h M30 hM30
  refine j_aload_n o dX12_init_29 rfl ?_
  refine j_bipush o (v := 84) dX12_init_30 rfl ?_
  obtain ⟨hf31, h⟩ := h
  refine r_newarr (g := 5) (ti := 0) (nn := 84) (B := 84) (atype := .int) (ty := .int) (a0 := (84, .inl (fun _ => 0))) o rfl (fun _ => rfl) (fun _ _ h => h) (fun _ => rfl) (iz_int _ List.mem_cons_self) rfl (Nat.le_refl _) (Nat.le_of_ble_eq_true rfl) (Nat.le_of_ble_eq_true rfl) hf31.hold (fun a tA e he => rnew_ar rfl rfl he) ⟨Nat.le_of_ble_eq_true rfl, Nat.le_of_ble_eq_true rfl⟩ dX12_init_32 (fun b32 => ?_)
  obtain ⟨P33, hP34⟩ : ∃ P9, P9 = pnew P22 5 b32 := ⟨_, rfl⟩
  rw [← hP34]
  replace h := h b32 P33 hP34
  have hx35 : Pext P22 P33 := (by rw [hP34]; exact Pext.new hf31.1)
  have hp36 : P33.2.1 1 = true := (hx35.1 _ hp25).1
  have hp37 : P33.2.1 2 = true := (hx35.1 _ hp26).1
  have hp38 : P33.2.1 3 = true := (hx35.1 _ hp27).1
  have hp39 : P33.2.1 4 = true := (hx35.1 _ hp28).1
  have hp40 : P33.2.1 5 = true := (by rw [hP34]; exact (pnew_at _ _ _).1)
  have hp40a : P33.1 5 = b32 := (show P33.1 5 = b32 by rw [hP34]; exact (pnew_at _ _ _).2)
  refine j_conv (lo' := [(0, .ref (P33.1 1)), (1, .int a1)]) (st' := [.ref (P33.1 5), .ref (P33.1 1)]) (by rw [(hx35.1 1 hp25).2] <;> rfl) (by rw [(hx35.1 1 hp25).2, hp40a] <;> rfl) ?_
  have hw41 : Pext P P33 := hw29.trans hx35
  refine j_nameN (fun N42 hN42 => ?_)
  replace h := h N42 hN42
  refine r_putF (g := 1) (slot := 13) (x := 1) (ci := 12) (ty := .array .int) o hp36 rfl rfl (rfv_r (by decide)) rfl jin_X12 tyX12_ok nmX12 (by decide) rfl rfl rfl rfl jf_X12_20 (by decide +kernel) rfl rfl dX12_init_34 ?_
  refine j_aload_n o dX12_init_37 rfl ?_
  refine j_bipush o (v := 84) dX12_init_38 rfl ?_
  obtain ⟨hf43, h⟩ := h
  refine r_newarr (g := 6) (ti := 0) (nn := 84) (B := 84) (atype := .int) (ty := .int) (a0 := (84, .inl (fun _ => 0))) o rfl (fun _ => rfl) (fun _ _ h => h) (fun _ => rfl) (iz_int _ List.mem_cons_self) rfl (Nat.le_refl _) (Nat.le_of_ble_eq_true rfl) (Nat.le_of_ble_eq_true rfl) hf43.hold (fun a tA e he => rnew_ar rfl rfl he) ⟨Nat.le_of_ble_eq_true rfl, Nat.le_of_ble_eq_true rfl⟩ dX12_init_40 (fun b44 => ?_)
  obtain ⟨P45, hP46⟩ : ∃ P9, P9 = pnew P33 6 b44 := ⟨_, rfl⟩
  rw [← hP46]
  replace h := h b44 P45 hP46
  have hx47 : Pext P33 P45 := (by rw [hP46]; exact Pext.new hf43.1)
  have hp48 : P45.2.1 1 = true := (hx47.1 _ hp36).1
  have hp49 : P45.2.1 2 = true := (hx47.1 _ hp37).1
  have hp50 : P45.2.1 3 = true := (hx47.1 _ hp38).1
  have hp51 : P45.2.1 4 = true := (hx47.1 _ hp39).1
  have hp52 : P45.2.1 5 = true := (hx47.1 _ hp40).1
  have hp53 : P45.2.1 6 = true := (by rw [hP46]; exact (pnew_at _ _ _).1)
  have hp53a : P45.1 6 = b44 := (show P45.1 6 = b44 by rw [hP46]; exact (pnew_at _ _ _).2)
  refine j_conv (lo' := [(0, .ref (P45.1 1)), (1, .int a1)]) (st' := [.ref (P45.1 6), .ref (P45.1 1)]) (by rw [(hx47.1 1 hp36).2] <;> rfl) (by rw [(hx47.1 1 hp36).2, hp53a] <;> rfl) ?_
  have hw54 : Pext P P45 := hw41.trans hx47
  refine j_nameM (fun M55 hM55 => ?_)
  replace h := h M55 hM55
  refine r_putF (g := 1) (slot := 14) (x := 1) (ci := 12) (ty := .array .int) o hp48 rfl rfl (rfv_r (by decide)) rfl jin_X12 tyX12_ok nmX12 (by decide) rfl rfl rfl rfl jf_X12_23 (by decide +kernel) rfl rfl dX12_init_42 ?_
  refine j_aload_n o dX12_init_45 rfl ?_
  refine j_bipush o (v := 7) dX12_init_46 rfl ?_
  obtain ⟨hf56, h⟩ := h
  refine r_newarr (g := 7) (ti := 0) (nn := 7) (B := 7) (atype := .int) (ty := .int) (a0 := (7, .inl (fun _ => 0))) o rfl (fun _ => rfl) (fun _ _ h => h) (fun _ => rfl) (iz_int _ List.mem_cons_self) rfl (Nat.le_refl _) (Nat.le_of_ble_eq_true rfl) (Nat.le_of_ble_eq_true rfl) hf56.hold (fun a tA e he => rnew_ar rfl rfl he) ⟨Nat.le_of_ble_eq_true rfl, Nat.le_of_ble_eq_true rfl⟩ dX12_init_48 (fun b57 => ?_)
  obtain ⟨P58, hP59⟩ : ∃ P9, P9 = pnew P45 7 b57 := ⟨_, rfl⟩
  rw [← hP59]
  replace h := h b57 P58 hP59
  have hx60 : Pext P45 P58 := (by rw [hP59]; exact Pext.new hf56.1)
  have hp61 : P58.2.1 1 = true := (hx60.1 _ hp48).1
  have hp62 : P58.2.1 2 = true := (hx60.1 _ hp49).1
  have hp63 : P58.2.1 3 = true := (hx60.1 _ hp50).1
  have hp64 : P58.2.1 4 = true := (hx60.1 _ hp51).1
  have hp65 : P58.2.1 5 = true := (hx60.1 _ hp52).1
  have hp66 : P58.2.1 6 = true := (hx60.1 _ hp53).1
  have hp67 : P58.2.1 7 = true := (by rw [hP59]; exact (pnew_at _ _ _).1)
  have hp67a : P58.1 7 = b57 := (show P58.1 7 = b57 by rw [hP59]; exact (pnew_at _ _ _).2)
  refine j_conv (lo' := [(0, .ref (P58.1 1)), (1, .int a1)]) (st' := [.ref (P58.1 7), .ref (P58.1 1)]) (by rw [(hx60.1 1 hp48).2] <;> rfl) (by rw [(hx60.1 1 hp48).2, hp67a] <;> rfl) ?_
  have hw68 : Pext P P58 := hw54.trans hx60
  refine r_putF (g := 1) (slot := 15) (x := 1) (ci := 12) (ty := .array .int) o hp61 rfl rfl (rfv_r (by decide)) rfl jin_X12 tyX12_ok nmX12 (by decide) rfl rfl rfl rfl jf_X12_26 (by decide +kernel) rfl rfl dX12_init_50 ?_
  refine j_nameM (fun M69 hM69 => ?_)
  replace h := h M69 hM69
  refine j_aload_n o dX12_init_53 rfl ?_
  refine j_sipush o (v := 3072) dX12_init_54 rfl ?_
  obtain ⟨hf70, h⟩ := h
  refine r_newarr (g := 8) (ti := 0) (nn := 3072) (B := 3072) (atype := .int) (ty := .int) (a0 := (3072, .inl (fun _ => 0))) o rfl (fun _ => rfl) (fun _ _ h => h) (fun _ => rfl) (iz_int _ List.mem_cons_self) rfl (Nat.le_refl _) (Nat.le_of_ble_eq_true rfl) (Nat.le_of_ble_eq_true rfl) hf70.hold (fun a tA e he => rnew_ar rfl rfl he) ⟨Nat.le_of_ble_eq_true rfl, Nat.le_of_ble_eq_true rfl⟩ dX12_init_57 (fun b71 => ?_)
  obtain ⟨P72, hP73⟩ : ∃ P9, P9 = pnew P58 8 b71 := ⟨_, rfl⟩
  rw [← hP73]
  replace h := h b71 P72 hP73
  have hx74 : Pext P58 P72 := (by rw [hP73]; exact Pext.new hf70.1)
  have hp75 : P72.2.1 1 = true := (hx74.1 _ hp61).1
  have hp76 : P72.2.1 2 = true := (hx74.1 _ hp62).1
  have hp77 : P72.2.1 3 = true := (hx74.1 _ hp63).1
  have hp78 : P72.2.1 4 = true := (hx74.1 _ hp64).1
  have hp79 : P72.2.1 5 = true := (hx74.1 _ hp65).1
  have hp80 : P72.2.1 6 = true := (hx74.1 _ hp66).1
  have hp81 : P72.2.1 7 = true := (hx74.1 _ hp67).1
  have hp82 : P72.2.1 8 = true := (by rw [hP73]; exact (pnew_at _ _ _).1)
  have hp82a : P72.1 8 = b71 := (show P72.1 8 = b71 by rw [hP73]; exact (pnew_at _ _ _).2)
  refine j_conv (lo' := [(0, .ref (P72.1 1)), (1, .int a1)]) (st' := [.ref (P72.1 8), .ref (P72.1 1)]) (by rw [(hx74.1 1 hp61).2] <;> rfl) (by rw [(hx74.1 1 hp61).2, hp82a] <;> rfl) ?_
  have hw83 : Pext P P72 := hw68.trans hx74
  refine r_putF (g := 1) (slot := 17) (x := 1) (ci := 12) (ty := .array .int) o hp75 rfl rfl (rfv_r (by decide)) rfl jin_X12 tyX12_ok nmX12 (by decide) rfl rfl rfl rfl jf_X12_29 (by decide +kernel) rfl rfl dX12_init_59 ?_
  refine j_aload_n o dX12_init_62 rfl ?_
  refine j_sipush o (v := 3072) dX12_init_63 rfl ?_
  obtain ⟨hf84, h⟩ := h
  refine r_newarr (g := 9) (ti := 0) (nn := 3072) (B := 3072) (atype := .int) (ty := .int) (a0 := (3072, .inl (fun _ => 0))) o rfl (fun _ => rfl) (fun _ _ h => h) (fun _ => rfl) (iz_int _ List.mem_cons_self) rfl (Nat.le_refl _) (Nat.le_of_ble_eq_true rfl) (Nat.le_of_ble_eq_true rfl) hf84.hold (fun a tA e he => rnew_ar rfl rfl he) ⟨Nat.le_of_ble_eq_true rfl, Nat.le_of_ble_eq_true rfl⟩ dX12_init_66 (fun b85 => ?_)
  obtain ⟨P86, hP87⟩ : ∃ P9, P9 = pnew P72 9 b85 := ⟨_, rfl⟩
  rw [← hP87]
  replace h := h b85 P86 hP87
  have hx88 : Pext P72 P86 := (by rw [hP87]; exact Pext.new hf84.1)
  have hp89 : P86.2.1 1 = true := (hx88.1 _ hp75).1
  have hp90 : P86.2.1 2 = true := (hx88.1 _ hp76).1
  have hp91 : P86.2.1 3 = true := (hx88.1 _ hp77).1
  have hp92 : P86.2.1 4 = true := (hx88.1 _ hp78).1
  have hp93 : P86.2.1 5 = true := (hx88.1 _ hp79).1
  have hp94 : P86.2.1 6 = true := (hx88.1 _ hp80).1
  have hp95 : P86.2.1 7 = true := (hx88.1 _ hp81).1
  have hp96 : P86.2.1 8 = true := (hx88.1 _ hp82).1
  have hp97 : P86.2.1 9 = true := (by rw [hP87]; exact (pnew_at _ _ _).1)
  have hp97a : P86.1 9 = b85 := (show P86.1 9 = b85 by rw [hP87]; exact (pnew_at _ _ _).2)
  refine j_conv (lo' := [(0, .ref (P86.1 1)), (1, .int a1)]) (st' := [.ref (P86.1 9), .ref (P86.1 1)]) (by rw [(hx88.1 1 hp75).2] <;> rfl) (by rw [(hx88.1 1 hp75).2, hp97a] <;> rfl) ?_
  have hw98 : Pext P P86 := hw83.trans hx88
  refine j_nameM (fun M99 hM99 => ?_)
  replace h := h M99 hM99
  refine j_nameN (fun N100 hN100 => ?_)
  replace h := h N100 hN100
  refine r_putF (g := 1) (slot := 18) (x := 1) (ci := 12) (ty := .array .int) o hp89 rfl rfl (rfv_r (by decide)) rfl jin_X12 tyX12_ok nmX12 (by decide) rfl rfl rfl rfl jf_X12_32 (by decide +kernel) rfl rfl dX12_init_68 ?_
  refine j_aload_n o dX12_init_71 rfl ?_
  refine j_bipush o (v := 6) dX12_init_72 rfl ?_
  obtain ⟨hf101, h⟩ := h
  refine r_newarr (g := 10) (ti := 0) (nn := 6) (B := 6) (atype := .int) (ty := .int) (a0 := (6, .inl (fun _ => 0))) o rfl (fun _ => rfl) (fun _ _ h => h) (fun _ => rfl) (iz_int _ List.mem_cons_self) rfl (Nat.le_refl _) (Nat.le_of_ble_eq_true rfl) (Nat.le_of_ble_eq_true rfl) hf101.hold (fun a tA e he => rnew_ar rfl rfl he) ⟨Nat.le_of_ble_eq_true rfl, Nat.le_of_ble_eq_true rfl⟩ dX12_init_74 (fun b102 => ?_)
  obtain ⟨P103, hP104⟩ : ∃ P9, P9 = pnew P86 10 b102 := ⟨_, rfl⟩
  rw [← hP104]
  replace h := h b102 P103 hP104
  have hx105 : Pext P86 P103 := (by rw [hP104]; exact Pext.new hf101.1)
  have hp106 : P103.2.1 1 = true := (hx105.1 _ hp89).1
  have hp107 : P103.2.1 2 = true := (hx105.1 _ hp90).1
  have hp108 : P103.2.1 3 = true := (hx105.1 _ hp91).1
  have hp109 : P103.2.1 4 = true := (hx105.1 _ hp92).1
  have hp110 : P103.2.1 5 = true := (hx105.1 _ hp93).1
  have hp111 : P103.2.1 6 = true := (hx105.1 _ hp94).1
  have hp112 : P103.2.1 7 = true := (hx105.1 _ hp95).1
  have hp113 : P103.2.1 8 = true := (hx105.1 _ hp96).1
  have hp114 : P103.2.1 9 = true := (hx105.1 _ hp97).1
  have hp115 : P103.2.1 10 = true := (by rw [hP104]; exact (pnew_at _ _ _).1)
  have hp115a : P103.1 10 = b102 := (show P103.1 10 = b102 by rw [hP104]; exact (pnew_at _ _ _).2)
  refine j_conv (lo' := [(0, .ref (P103.1 1)), (1, .int a1)]) (st' := [.ref (P103.1 10), .ref (P103.1 1)]) (by rw [(hx105.1 1 hp89).2] <;> rfl) (by rw [(hx105.1 1 hp89).2, hp115a] <;> rfl) ?_
  have hw116 : Pext P P103 := hw98.trans hx105
  refine r_putF (g := 1) (slot := 19) (x := 1) (ci := 12) (ty := .array .int) o hp106 rfl rfl (rfv_r (by decide)) rfl jin_X12 tyX12_ok nmX12 (by decide) rfl rfl rfl rfl jf_X12_35 (by decide +kernel) rfl rfl dX12_init_76 ?_
  refine j_nameM (fun M117 hM117 => ?_)
  replace h := h M117 hM117
  refine j_aload_n o dX12_init_79 rfl ?_
  refine j_bipush o (v := 72) dX12_init_80 rfl ?_
  obtain ⟨hf118, h⟩ := h
  refine r_newarr (g := 11) (ti := 0) (nn := 72) (B := 72) (atype := .int) (ty := .int) (a0 := (72, .inl (fun _ => 0))) o rfl (fun _ => rfl) (fun _ _ h => h) (fun _ => rfl) (iz_int _ List.mem_cons_self) rfl (Nat.le_refl _) (Nat.le_of_ble_eq_true rfl) (Nat.le_of_ble_eq_true rfl) hf118.hold (fun a tA e he => rnew_ar rfl rfl he) ⟨Nat.le_of_ble_eq_true rfl, Nat.le_of_ble_eq_true rfl⟩ dX12_init_82 (fun b119 => ?_)
  obtain ⟨P120, hP121⟩ : ∃ P9, P9 = pnew P103 11 b119 := ⟨_, rfl⟩
  rw [← hP121]
  replace h := h b119 P120 hP121
  have hx122 : Pext P103 P120 := (by rw [hP121]; exact Pext.new hf118.1)
  have hp123 : P120.2.1 1 = true := (hx122.1 _ hp106).1
  have hp124 : P120.2.1 2 = true := (hx122.1 _ hp107).1
  have hp125 : P120.2.1 3 = true := (hx122.1 _ hp108).1
  have hp126 : P120.2.1 4 = true := (hx122.1 _ hp109).1
  have hp127 : P120.2.1 5 = true := (hx122.1 _ hp110).1
  have hp128 : P120.2.1 6 = true := (hx122.1 _ hp111).1
  have hp129 : P120.2.1 7 = true := (hx122.1 _ hp112).1
  have hp130 : P120.2.1 8 = true := (hx122.1 _ hp113).1
  have hp131 : P120.2.1 9 = true := (hx122.1 _ hp114).1
  have hp132 : P120.2.1 10 = true := (hx122.1 _ hp115).1
  have hp133 : P120.2.1 11 = true := (by rw [hP121]; exact (pnew_at _ _ _).1)
  have hp133a : P120.1 11 = b119 := (show P120.1 11 = b119 by rw [hP121]; exact (pnew_at _ _ _).2)
  refine j_conv (lo' := [(0, .ref (P120.1 1)), (1, .int a1)]) (st' := [.ref (P120.1 11), .ref (P120.1 1)]) (by rw [(hx122.1 1 hp106).2] <;> rfl) (by rw [(hx122.1 1 hp106).2, hp133a] <;> rfl) ?_
  have hw134 : Pext P P120 := hw116.trans hx122
  refine r_putF (g := 1) (slot := 20) (x := 1) (ci := 12) (ty := .array .int) o hp123 rfl rfl (rfv_r (by decide)) rfl jin_X12 tyX12_ok nmX12 (by decide) rfl rfl rfl rfl jf_X12_38 (by decide +kernel) rfl rfl dX12_init_84 ?_
  refine j_aload_n o dX12_init_87 rfl ?_
  refine j_bipush o (v := 9) dX12_init_88 rfl ?_
  obtain ⟨hf135, h⟩ := h
  refine r_newarr (g := 12) (ti := 0) (nn := 9) (B := 9) (atype := .int) (ty := .int) (a0 := (9, .inl (fun _ => 0))) o rfl (fun _ => rfl) (fun _ _ h => h) (fun _ => rfl) (iz_int _ List.mem_cons_self) rfl (Nat.le_refl _) (Nat.le_of_ble_eq_true rfl) (Nat.le_of_ble_eq_true rfl) hf135.hold (fun a tA e he => rnew_ar rfl rfl he) ⟨Nat.le_of_ble_eq_true rfl, Nat.le_of_ble_eq_true rfl⟩ dX12_init_90 (fun b136 => ?_)
  obtain ⟨P137, hP138⟩ : ∃ P9, P9 = pnew P120 12 b136 := ⟨_, rfl⟩
  rw [← hP138]
  replace h := h b136 P137 hP138
  have hx139 : Pext P120 P137 := (by rw [hP138]; exact Pext.new hf135.1)
  have hp140 : P137.2.1 1 = true := (hx139.1 _ hp123).1
  have hp141 : P137.2.1 2 = true := (hx139.1 _ hp124).1
  have hp142 : P137.2.1 3 = true := (hx139.1 _ hp125).1
  have hp143 : P137.2.1 4 = true := (hx139.1 _ hp126).1
  have hp144 : P137.2.1 5 = true := (hx139.1 _ hp127).1
  have hp145 : P137.2.1 6 = true := (hx139.1 _ hp128).1
  have hp146 : P137.2.1 7 = true := (hx139.1 _ hp129).1
  have hp147 : P137.2.1 8 = true := (hx139.1 _ hp130).1
  have hp148 : P137.2.1 9 = true := (hx139.1 _ hp131).1
  have hp149 : P137.2.1 10 = true := (hx139.1 _ hp132).1
  have hp150 : P137.2.1 11 = true := (hx139.1 _ hp133).1
  have hp151 : P137.2.1 12 = true := (by rw [hP138]; exact (pnew_at _ _ _).1)
  have hp151a : P137.1 12 = b136 := (show P137.1 12 = b136 by rw [hP138]; exact (pnew_at _ _ _).2)
  refine j_conv (lo' := [(0, .ref (P137.1 1)), (1, .int a1)]) (st' := [.ref (P137.1 12), .ref (P137.1 1)]) (by rw [(hx139.1 1 hp123).2] <;> rfl) (by rw [(hx139.1 1 hp123).2, hp151a] <;> rfl) ?_
  have hw152 : Pext P P137 := hw134.trans hx139
  refine j_nameM (fun M153 hM153 => ?_)
  replace h := h M153 hM153
  refine j_nameN (fun N154 hN154 => ?_)
  replace h := h N154 hN154
  refine r_putF (g := 1) (slot := 21) (x := 1) (ci := 12) (ty := .array .int) o hp140 rfl rfl (rfv_r (by decide)) rfl jin_X12 tyX12_ok nmX12 (by decide) rfl rfl rfl rfl jf_X12_41 (by decide +kernel) rfl rfl dX12_init_92 ?_
  refine j_aload_n o dX12_init_95 rfl ?_
  refine j_bipush o (v := 10) dX12_init_96 rfl ?_
  obtain ⟨hf155, h⟩ := h
  refine r_newarr (g := 13) (ti := 0) (nn := 10) (B := 10) (atype := .int) (ty := .int) (a0 := (10, .inl (fun _ => 0))) o rfl (fun _ => rfl) (fun _ _ h => h) (fun _ => rfl) (iz_int _ List.mem_cons_self) rfl (Nat.le_refl _) (Nat.le_of_ble_eq_true rfl) (Nat.le_of_ble_eq_true rfl) hf155.hold (fun a tA e he => rnew_ar rfl rfl he) ⟨Nat.le_of_ble_eq_true rfl, Nat.le_of_ble_eq_true rfl⟩ dX12_init_98 (fun b156 => ?_)
  obtain ⟨P157, hP158⟩ : ∃ P9, P9 = pnew P137 13 b156 := ⟨_, rfl⟩
  rw [← hP158]
  replace h := h b156 P157 hP158
  have hx159 : Pext P137 P157 := (by rw [hP158]; exact Pext.new hf155.1)
  have hp160 : P157.2.1 1 = true := (hx159.1 _ hp140).1
  have hp161 : P157.2.1 2 = true := (hx159.1 _ hp141).1
  have hp162 : P157.2.1 3 = true := (hx159.1 _ hp142).1
  have hp163 : P157.2.1 4 = true := (hx159.1 _ hp143).1
  have hp164 : P157.2.1 5 = true := (hx159.1 _ hp144).1
  have hp165 : P157.2.1 6 = true := (hx159.1 _ hp145).1
  have hp166 : P157.2.1 7 = true := (hx159.1 _ hp146).1
  have hp167 : P157.2.1 8 = true := (hx159.1 _ hp147).1
  have hp168 : P157.2.1 9 = true := (hx159.1 _ hp148).1
  have hp169 : P157.2.1 10 = true := (hx159.1 _ hp149).1
  have hp170 : P157.2.1 11 = true := (hx159.1 _ hp150).1
  have hp171 : P157.2.1 12 = true := (hx159.1 _ hp151).1
  have hp172 : P157.2.1 13 = true := (by rw [hP158]; exact (pnew_at _ _ _).1)
  have hp172a : P157.1 13 = b156 := (show P157.1 13 = b156 by rw [hP158]; exact (pnew_at _ _ _).2)
  refine j_conv (lo' := [(0, .ref (P157.1 1)), (1, .int a1)]) (st' := [.ref (P157.1 13), .ref (P157.1 1)]) (by rw [(hx159.1 1 hp140).2] <;> rfl) (by rw [(hx159.1 1 hp140).2, hp172a] <;> rfl) ?_
  have hw173 : Pext P P157 := hw152.trans hx159
  refine r_putF (g := 1) (slot := 22) (x := 1) (ci := 12) (ty := .array .int) o hp160 rfl rfl (rfv_r (by decide)) rfl jin_X12 tyX12_ok nmX12 (by decide) rfl rfl rfl rfl jf_X12_44 (by decide +kernel) rfl rfl dX12_init_100 ?_
  refine j_nameM (fun M174 hM174 => ?_)
  replace h := h M174 hM174
  refine j_aload_n o dX12_init_103 rfl ?_
  refine j_sipush o (v := 5120) dX12_init_104 rfl ?_
  obtain ⟨hf175, h⟩ := h
  refine r_newarr (g := 14) (ti := 2) (nn := 5120) (B := 5120) (atype := .boolean) (ty := .boolean) (a0 := (5120, .inl (fun _ => 0))) o rfl (fun _ => rfl) (fun _ _ h => h) (fun _ => rfl) (iz_boolean _ List.mem_cons_self) rfl (Nat.le_refl _) (Nat.le_of_ble_eq_true rfl) (Nat.le_of_ble_eq_true rfl) hf175.hold (fun a tA e he => rnew_ar rfl rfl he) ⟨Nat.le_of_ble_eq_true rfl, Nat.le_of_ble_eq_true rfl⟩ dX12_init_107 (fun b176 => ?_)
  obtain ⟨P177, hP178⟩ : ∃ P9, P9 = pnew P157 14 b176 := ⟨_, rfl⟩
  rw [← hP178]
  replace h := h b176 P177 hP178
  have hx179 : Pext P157 P177 := (by rw [hP178]; exact Pext.new hf175.1)
  have hp180 : P177.2.1 1 = true := (hx179.1 _ hp160).1
  have hp181 : P177.2.1 2 = true := (hx179.1 _ hp161).1
  have hp182 : P177.2.1 3 = true := (hx179.1 _ hp162).1
  have hp183 : P177.2.1 4 = true := (hx179.1 _ hp163).1
  have hp184 : P177.2.1 5 = true := (hx179.1 _ hp164).1
  have hp185 : P177.2.1 6 = true := (hx179.1 _ hp165).1
  have hp186 : P177.2.1 7 = true := (hx179.1 _ hp166).1
  have hp187 : P177.2.1 8 = true := (hx179.1 _ hp167).1
  have hp188 : P177.2.1 9 = true := (hx179.1 _ hp168).1
  have hp189 : P177.2.1 10 = true := (hx179.1 _ hp169).1
  have hp190 : P177.2.1 11 = true := (hx179.1 _ hp170).1
  have hp191 : P177.2.1 12 = true := (hx179.1 _ hp171).1
  have hp192 : P177.2.1 13 = true := (hx179.1 _ hp172).1
  have hp193 : P177.2.1 14 = true := (by rw [hP178]; exact (pnew_at _ _ _).1)
  have hp193a : P177.1 14 = b176 := (show P177.1 14 = b176 by rw [hP178]; exact (pnew_at _ _ _).2)
  refine j_conv (lo' := [(0, .ref (P177.1 1)), (1, .int a1)]) (st' := [.ref (P177.1 14), .ref (P177.1 1)]) (by rw [(hx179.1 1 hp160).2] <;> rfl) (by rw [(hx179.1 1 hp160).2, hp193a] <;> rfl) ?_
  have hw194 : Pext P P177 := hw173.trans hx179
  refine r_putF (g := 1) (slot := 23) (x := 1) (ci := 12) (ty := .array .boolean) o hp180 rfl rfl (rfv_r (by decide)) rfl jin_X12 tyX12_ok nmX12 (by decide) rfl rfl rfl rfl jf_X12_47 (by decide +kernel) rfl rfl dX12_init_109 ?_
  refine j_aload_n o dX12_init_112 rfl ?_
  refine j_bipush o (v := 9) dX12_init_113 rfl ?_
  obtain ⟨hf195, h⟩ := h
  refine r_newarr (g := 15) (ti := 2) (nn := 9) (B := 9) (atype := .boolean) (ty := .boolean) (a0 := (9, .inl (fun _ => 0))) o rfl (fun _ => rfl) (fun _ _ h => h) (fun _ => rfl) (iz_boolean _ List.mem_cons_self) rfl (Nat.le_refl _) (Nat.le_of_ble_eq_true rfl) (Nat.le_of_ble_eq_true rfl) hf195.hold (fun a tA e he => rnew_ar rfl rfl he) ⟨Nat.le_of_ble_eq_true rfl, Nat.le_of_ble_eq_true rfl⟩ dX12_init_115 (fun b196 => ?_)
  obtain ⟨P197, hP198⟩ : ∃ P9, P9 = pnew P177 15 b196 := ⟨_, rfl⟩
  rw [← hP198]
  replace h := h b196 P197 hP198
  have hx199 : Pext P177 P197 := (by rw [hP198]; exact Pext.new hf195.1)
  have hp200 : P197.2.1 1 = true := (hx199.1 _ hp180).1
  have hp201 : P197.2.1 2 = true := (hx199.1 _ hp181).1
  have hp202 : P197.2.1 3 = true := (hx199.1 _ hp182).1
  have hp203 : P197.2.1 4 = true := (hx199.1 _ hp183).1
  have hp204 : P197.2.1 5 = true := (hx199.1 _ hp184).1
  have hp205 : P197.2.1 6 = true := (hx199.1 _ hp185).1
  have hp206 : P197.2.1 7 = true := (hx199.1 _ hp186).1
  have hp207 : P197.2.1 8 = true := (hx199.1 _ hp187).1
  have hp208 : P197.2.1 9 = true := (hx199.1 _ hp188).1
  have hp209 : P197.2.1 10 = true := (hx199.1 _ hp189).1
  have hp210 : P197.2.1 11 = true := (hx199.1 _ hp190).1
  have hp211 : P197.2.1 12 = true := (hx199.1 _ hp191).1
  have hp212 : P197.2.1 13 = true := (hx199.1 _ hp192).1
  have hp213 : P197.2.1 14 = true := (hx199.1 _ hp193).1
  have hp214 : P197.2.1 15 = true := (by rw [hP198]; exact (pnew_at _ _ _).1)
  have hp214a : P197.1 15 = b196 := (show P197.1 15 = b196 by rw [hP198]; exact (pnew_at _ _ _).2)
  refine j_conv (lo' := [(0, .ref (P197.1 1)), (1, .int a1)]) (st' := [.ref (P197.1 15), .ref (P197.1 1)]) (by rw [(hx199.1 1 hp180).2] <;> rfl) (by rw [(hx199.1 1 hp180).2, hp214a] <;> rfl) ?_
  have hw215 : Pext P P197 := hw194.trans hx199
  refine j_nameM (fun M216 hM216 => ?_)
  replace h := h M216 hM216
  refine j_nameN (fun N217 hN217 => ?_)
  replace h := h N217 hN217
  refine r_putF (g := 1) (slot := 24) (x := 1) (ci := 12) (ty := .array .boolean) o hp200 rfl rfl (rfv_r (by decide)) rfl jin_X12 tyX12_ok nmX12 (by decide) rfl rfl rfl rfl jf_X12_51 (by decide +kernel) rfl rfl dX12_init_117 ?_
  refine j_aload_n o dX12_init_120 rfl ?_
  refine j_bipush o (v := 9) dX12_init_121 rfl ?_
  obtain ⟨hf218, h⟩ := h
  refine r_newarr (g := 16) (ti := 0) (nn := 9) (B := 9) (atype := .int) (ty := .int) (a0 := (9, .inl (fun _ => 0))) o rfl (fun _ => rfl) (fun _ _ h => h) (fun _ => rfl) (iz_int _ List.mem_cons_self) rfl (Nat.le_refl _) (Nat.le_of_ble_eq_true rfl) (Nat.le_of_ble_eq_true rfl) hf218.hold (fun a tA e he => rnew_ar rfl rfl he) ⟨Nat.le_of_ble_eq_true rfl, Nat.le_of_ble_eq_true rfl⟩ dX12_init_123 (fun b219 => ?_)
  obtain ⟨P220, hP221⟩ : ∃ P9, P9 = pnew P197 16 b219 := ⟨_, rfl⟩
  rw [← hP221]
  replace h := h b219 P220 hP221
  have hx222 : Pext P197 P220 := (by rw [hP221]; exact Pext.new hf218.1)
  have hp223 : P220.2.1 1 = true := (hx222.1 _ hp200).1
  have hp224 : P220.2.1 2 = true := (hx222.1 _ hp201).1
  have hp225 : P220.2.1 3 = true := (hx222.1 _ hp202).1
  have hp226 : P220.2.1 4 = true := (hx222.1 _ hp203).1
  have hp227 : P220.2.1 5 = true := (hx222.1 _ hp204).1
  have hp228 : P220.2.1 6 = true := (hx222.1 _ hp205).1
  have hp229 : P220.2.1 7 = true := (hx222.1 _ hp206).1
  have hp230 : P220.2.1 8 = true := (hx222.1 _ hp207).1
  have hp231 : P220.2.1 9 = true := (hx222.1 _ hp208).1
  have hp232 : P220.2.1 10 = true := (hx222.1 _ hp209).1
  have hp233 : P220.2.1 11 = true := (hx222.1 _ hp210).1
  have hp234 : P220.2.1 12 = true := (hx222.1 _ hp211).1
  have hp235 : P220.2.1 13 = true := (hx222.1 _ hp212).1
  have hp236 : P220.2.1 14 = true := (hx222.1 _ hp213).1
  have hp237 : P220.2.1 15 = true := (hx222.1 _ hp214).1
  have hp238 : P220.2.1 16 = true := (by rw [hP221]; exact (pnew_at _ _ _).1)
  have hp238a : P220.1 16 = b219 := (show P220.1 16 = b219 by rw [hP221]; exact (pnew_at _ _ _).2)
  refine j_conv (lo' := [(0, .ref (P220.1 1)), (1, .int a1)]) (st' := [.ref (P220.1 16), .ref (P220.1 1)]) (by rw [(hx222.1 1 hp200).2] <;> rfl) (by rw [(hx222.1 1 hp200).2, hp238a] <;> rfl) ?_
  have hw239 : Pext P P220 := hw215.trans hx222
  refine r_putF (g := 1) (slot := 28) (x := 1) (ci := 12) (ty := .array .int) o hp223 rfl rfl (rfv_r (by decide)) rfl jin_X12 tyX12_ok nmX12 (by decide) rfl rfl rfl rfl jf_X12_54 (by decide +kernel) rfl rfl dX12_init_125 ?_
  refine j_nameM (fun M240 hM240 => ?_)
  replace h := h M240 hM240
  refine j_aload_n o dX12_init_128 rfl ?_
  refine j_iconst o (v := 4) dX12_init_129 rfl ?_
  obtain ⟨hf241, h⟩ := h
  refine r_newarr (g := 17) (ti := 0) (nn := 4) (B := 4) (atype := .int) (ty := .int) (a0 := (4, .inl (fun _ => 0))) o rfl (fun _ => rfl) (fun _ _ h => h) (fun _ => rfl) (iz_int _ List.mem_cons_self) rfl (Nat.le_refl _) (Nat.le_of_ble_eq_true rfl) (Nat.le_of_ble_eq_true rfl) hf241.hold (fun a tA e he => rnew_ar rfl rfl he) ⟨Nat.le_of_ble_eq_true rfl, Nat.le_of_ble_eq_true rfl⟩ dX12_init_130 (fun b242 => ?_)
  obtain ⟨P243, hP244⟩ : ∃ P9, P9 = pnew P220 17 b242 := ⟨_, rfl⟩
  rw [← hP244]
  replace h := h b242 P243 hP244
  have hx245 : Pext P220 P243 := (by rw [hP244]; exact Pext.new hf241.1)
  have hp246 : P243.2.1 1 = true := (hx245.1 _ hp223).1
  have hp247 : P243.2.1 2 = true := (hx245.1 _ hp224).1
  have hp248 : P243.2.1 3 = true := (hx245.1 _ hp225).1
  have hp249 : P243.2.1 4 = true := (hx245.1 _ hp226).1
  have hp250 : P243.2.1 5 = true := (hx245.1 _ hp227).1
  have hp251 : P243.2.1 6 = true := (hx245.1 _ hp228).1
  have hp252 : P243.2.1 7 = true := (hx245.1 _ hp229).1
  have hp253 : P243.2.1 8 = true := (hx245.1 _ hp230).1
  have hp254 : P243.2.1 9 = true := (hx245.1 _ hp231).1
  have hp255 : P243.2.1 10 = true := (hx245.1 _ hp232).1
  have hp256 : P243.2.1 11 = true := (hx245.1 _ hp233).1
  have hp257 : P243.2.1 12 = true := (hx245.1 _ hp234).1
  have hp258 : P243.2.1 13 = true := (hx245.1 _ hp235).1
  have hp259 : P243.2.1 14 = true := (hx245.1 _ hp236).1
  have hp260 : P243.2.1 15 = true := (hx245.1 _ hp237).1
  have hp261 : P243.2.1 16 = true := (hx245.1 _ hp238).1
  have hp262 : P243.2.1 17 = true := (by rw [hP244]; exact (pnew_at _ _ _).1)
  have hp262a : P243.1 17 = b242 := (show P243.1 17 = b242 by rw [hP244]; exact (pnew_at _ _ _).2)
  refine j_conv (lo' := [(0, .ref (P243.1 1)), (1, .int a1)]) (st' := [.ref (P243.1 17), .ref (P243.1 1)]) (by rw [(hx245.1 1 hp223).2] <;> rfl) (by rw [(hx245.1 1 hp223).2, hp262a] <;> rfl) ?_
  have hw263 : Pext P P243 := hw239.trans hx245
  refine r_putF (g := 1) (slot := 29) (x := 1) (ci := 12) (ty := .array .int) o hp246 rfl rfl (rfv_r (by decide)) rfl jin_X12 tyX12_ok nmX12 (by decide) rfl rfl rfl rfl jf_X12_57 (by decide +kernel) rfl rfl dX12_init_132 ?_
  refine j_aload_n o dX12_init_135 rfl ?_
  refine j_bipush o (v := 36) dX12_init_136 rfl ?_
  obtain ⟨hf264, h⟩ := h
  refine r_newarr (g := 18) (ti := 0) (nn := 36) (B := 36) (atype := .int) (ty := .int) (a0 := (36, .inl (fun _ => 0))) o rfl (fun _ => rfl) (fun _ _ h => h) (fun _ => rfl) (iz_int _ List.mem_cons_self) rfl (Nat.le_refl _) (Nat.le_of_ble_eq_true rfl) (Nat.le_of_ble_eq_true rfl) hf264.hold (fun a tA e he => rnew_ar rfl rfl he) ⟨Nat.le_of_ble_eq_true rfl, Nat.le_of_ble_eq_true rfl⟩ dX12_init_138 (fun b265 => ?_)
  obtain ⟨P266, hP267⟩ : ∃ P9, P9 = pnew P243 18 b265 := ⟨_, rfl⟩
  rw [← hP267]
  replace h := h b265 P266 hP267
  have hx268 : Pext P243 P266 := (by rw [hP267]; exact Pext.new hf264.1)
  have hp269 : P266.2.1 1 = true := (hx268.1 _ hp246).1
  have hp270 : P266.2.1 2 = true := (hx268.1 _ hp247).1
  have hp271 : P266.2.1 3 = true := (hx268.1 _ hp248).1
  have hp272 : P266.2.1 4 = true := (hx268.1 _ hp249).1
  have hp273 : P266.2.1 5 = true := (hx268.1 _ hp250).1
  have hp274 : P266.2.1 6 = true := (hx268.1 _ hp251).1
  have hp275 : P266.2.1 7 = true := (hx268.1 _ hp252).1
  have hp276 : P266.2.1 8 = true := (hx268.1 _ hp253).1
  have hp277 : P266.2.1 9 = true := (hx268.1 _ hp254).1
  have hp278 : P266.2.1 10 = true := (hx268.1 _ hp255).1
  have hp279 : P266.2.1 11 = true := (hx268.1 _ hp256).1
  have hp280 : P266.2.1 12 = true := (hx268.1 _ hp257).1
  have hp281 : P266.2.1 13 = true := (hx268.1 _ hp258).1
  have hp282 : P266.2.1 14 = true := (hx268.1 _ hp259).1
  have hp283 : P266.2.1 15 = true := (hx268.1 _ hp260).1
  have hp284 : P266.2.1 16 = true := (hx268.1 _ hp261).1
  have hp285 : P266.2.1 17 = true := (hx268.1 _ hp262).1
  have hp286 : P266.2.1 18 = true := (by rw [hP267]; exact (pnew_at _ _ _).1)
  have hp286a : P266.1 18 = b265 := (show P266.1 18 = b265 by rw [hP267]; exact (pnew_at _ _ _).2)
  refine j_conv (lo' := [(0, .ref (P266.1 1)), (1, .int a1)]) (st' := [.ref (P266.1 18), .ref (P266.1 1)]) (by rw [(hx268.1 1 hp246).2] <;> rfl) (by rw [(hx268.1 1 hp246).2, hp286a] <;> rfl) ?_
  have hw287 : Pext P P266 := hw263.trans hx268
  refine j_nameM (fun M288 hM288 => ?_)
  replace h := h M288 hM288
  refine j_nameN (fun N289 hN289 => ?_)
  replace h := h N289 hN289
  refine r_putF (g := 1) (slot := 30) (x := 1) (ci := 12) (ty := .array .int) o hp269 rfl rfl (rfv_r (by decide)) rfl jin_X12 tyX12_ok nmX12 (by decide) rfl rfl rfl rfl jf_X12_60 (by decide +kernel) rfl rfl dX12_init_140 ?_
  refine j_aload_n o dX12_init_143 rfl ?_
  refine j_ldc o jk_X12_63 dX12_init_144 ?_
  obtain ⟨hf290, h⟩ := h
  refine r_newarr (g := 19) (ti := 0) (nn := 262144) (B := 262144) (atype := .int) (ty := .int) (a0 := (262144, .inl (fun _ => 0))) o rfl (fun _ => rfl) (fun _ _ h => h) (fun _ => rfl) (iz_int _ List.mem_cons_self) rfl (Nat.le_refl _) (Nat.le_of_ble_eq_true rfl) (Nat.le_of_ble_eq_true rfl) hf290.hold (fun a tA e he => rnew_ar rfl rfl he) ⟨Nat.le_of_ble_eq_true rfl, Nat.le_of_ble_eq_true rfl⟩ dX12_init_146 (fun b291 => ?_)
  obtain ⟨P292, hP293⟩ : ∃ P9, P9 = pnew P266 19 b291 := ⟨_, rfl⟩
  rw [← hP293]
  replace h := h b291 P292 hP293
  have hx294 : Pext P266 P292 := (by rw [hP293]; exact Pext.new hf290.1)
  have hp295 : P292.2.1 1 = true := (hx294.1 _ hp269).1
  have hp296 : P292.2.1 2 = true := (hx294.1 _ hp270).1
  have hp297 : P292.2.1 3 = true := (hx294.1 _ hp271).1
  have hp298 : P292.2.1 4 = true := (hx294.1 _ hp272).1
  have hp299 : P292.2.1 5 = true := (hx294.1 _ hp273).1
  have hp300 : P292.2.1 6 = true := (hx294.1 _ hp274).1
  have hp301 : P292.2.1 7 = true := (hx294.1 _ hp275).1
  have hp302 : P292.2.1 8 = true := (hx294.1 _ hp276).1
  have hp303 : P292.2.1 9 = true := (hx294.1 _ hp277).1
  have hp304 : P292.2.1 10 = true := (hx294.1 _ hp278).1
  have hp305 : P292.2.1 11 = true := (hx294.1 _ hp279).1
  have hp306 : P292.2.1 12 = true := (hx294.1 _ hp280).1
  have hp307 : P292.2.1 13 = true := (hx294.1 _ hp281).1
  have hp308 : P292.2.1 14 = true := (hx294.1 _ hp282).1
  have hp309 : P292.2.1 15 = true := (hx294.1 _ hp283).1
  have hp310 : P292.2.1 16 = true := (hx294.1 _ hp284).1
  have hp311 : P292.2.1 17 = true := (hx294.1 _ hp285).1
  have hp312 : P292.2.1 18 = true := (hx294.1 _ hp286).1
  have hp313 : P292.2.1 19 = true := (by rw [hP293]; exact (pnew_at _ _ _).1)
  have hp313a : P292.1 19 = b291 := (show P292.1 19 = b291 by rw [hP293]; exact (pnew_at _ _ _).2)
  refine j_conv (lo' := [(0, .ref (P292.1 1)), (1, .int a1)]) (st' := [.ref (P292.1 19), .ref (P292.1 1)]) (by rw [(hx294.1 1 hp269).2] <;> rfl) (by rw [(hx294.1 1 hp269).2, hp313a] <;> rfl) ?_
  have hw314 : Pext P P292 := hw287.trans hx294
  refine r_putF (g := 1) (slot := 32) (x := 1) (ci := 12) (ty := .array .int) o hp295 rfl rfl (rfv_r (by decide)) rfl jin_X12 tyX12_ok nmX12 (by decide) rfl rfl rfl rfl jf_X12_64 (by decide +kernel) rfl rfl dX12_init_148 ?_
  refine j_nameM (fun M315 hM315 => ?_)
  replace h := h M315 hM315
  refine j_aload_n o dX12_init_151 rfl ?_
  refine j_ldc o jk_X12_63 dX12_init_152 ?_
  obtain ⟨hf316, h⟩ := h
  refine r_newarr (g := 20) (ti := 0) (nn := 262144) (B := 262144) (atype := .int) (ty := .int) (a0 := (262144, .inl (fun _ => 0))) o rfl (fun _ => rfl) (fun _ _ h => h) (fun _ => rfl) (iz_int _ List.mem_cons_self) rfl (Nat.le_refl _) (Nat.le_of_ble_eq_true rfl) (Nat.le_of_ble_eq_true rfl) hf316.hold (fun a tA e he => rnew_ar rfl rfl he) ⟨Nat.le_of_ble_eq_true rfl, Nat.le_of_ble_eq_true rfl⟩ dX12_init_154 (fun b317 => ?_)
  obtain ⟨P318, hP319⟩ : ∃ P9, P9 = pnew P292 20 b317 := ⟨_, rfl⟩
  rw [← hP319]
  replace h := h b317 P318 hP319
  have hx320 : Pext P292 P318 := (by rw [hP319]; exact Pext.new hf316.1)
  have hp321 : P318.2.1 1 = true := (hx320.1 _ hp295).1
  have hp322 : P318.2.1 2 = true := (hx320.1 _ hp296).1
  have hp323 : P318.2.1 3 = true := (hx320.1 _ hp297).1
  have hp324 : P318.2.1 4 = true := (hx320.1 _ hp298).1
  have hp325 : P318.2.1 5 = true := (hx320.1 _ hp299).1
  have hp326 : P318.2.1 6 = true := (hx320.1 _ hp300).1
  have hp327 : P318.2.1 7 = true := (hx320.1 _ hp301).1
  have hp328 : P318.2.1 8 = true := (hx320.1 _ hp302).1
  have hp329 : P318.2.1 9 = true := (hx320.1 _ hp303).1
  have hp330 : P318.2.1 10 = true := (hx320.1 _ hp304).1
  have hp331 : P318.2.1 11 = true := (hx320.1 _ hp305).1
  have hp332 : P318.2.1 12 = true := (hx320.1 _ hp306).1
  have hp333 : P318.2.1 13 = true := (hx320.1 _ hp307).1
  have hp334 : P318.2.1 14 = true := (hx320.1 _ hp308).1
  have hp335 : P318.2.1 15 = true := (hx320.1 _ hp309).1
  have hp336 : P318.2.1 16 = true := (hx320.1 _ hp310).1
  have hp337 : P318.2.1 17 = true := (hx320.1 _ hp311).1
  have hp338 : P318.2.1 18 = true := (hx320.1 _ hp312).1
  have hp339 : P318.2.1 19 = true := (hx320.1 _ hp313).1
  have hp340 : P318.2.1 20 = true := (by rw [hP319]; exact (pnew_at _ _ _).1)
  have hp340a : P318.1 20 = b317 := (show P318.1 20 = b317 by rw [hP319]; exact (pnew_at _ _ _).2)
  refine j_conv (lo' := [(0, .ref (P318.1 1)), (1, .int a1)]) (st' := [.ref (P318.1 20), .ref (P318.1 1)]) (by rw [(hx320.1 1 hp295).2] <;> rfl) (by rw [(hx320.1 1 hp295).2, hp340a] <;> rfl) ?_
  have hw341 : Pext P P318 := hw314.trans hx320
  refine r_putF (g := 1) (slot := 33) (x := 1) (ci := 12) (ty := .array .int) o hp321 rfl rfl (rfv_r (by decide)) rfl jin_X12 tyX12_ok nmX12 (by decide) rfl rfl rfl rfl jf_X12_67 (by decide +kernel) rfl rfl dX12_init_156 ?_
  refine j_aload_n o dX12_init_159 rfl ?_
  refine j_ldc o jk_X12_63 dX12_init_160 ?_
  obtain ⟨hf342, h⟩ := h
  refine r_newarr (g := 21) (ti := 0) (nn := 262144) (B := 262144) (atype := .int) (ty := .int) (a0 := (262144, .inl (fun _ => 0))) o rfl (fun _ => rfl) (fun _ _ h => h) (fun _ => rfl) (iz_int _ List.mem_cons_self) rfl (Nat.le_refl _) (Nat.le_of_ble_eq_true rfl) (Nat.le_of_ble_eq_true rfl) hf342.hold (fun a tA e he => rnew_ar rfl rfl he) ⟨Nat.le_of_ble_eq_true rfl, Nat.le_of_ble_eq_true rfl⟩ dX12_init_162 (fun b343 => ?_)
  obtain ⟨P344, hP345⟩ : ∃ P9, P9 = pnew P318 21 b343 := ⟨_, rfl⟩
  rw [← hP345]
  replace h := h b343 P344 hP345
  have hx346 : Pext P318 P344 := (by rw [hP345]; exact Pext.new hf342.1)
  have hp347 : P344.2.1 1 = true := (hx346.1 _ hp321).1
  have hp348 : P344.2.1 2 = true := (hx346.1 _ hp322).1
  have hp349 : P344.2.1 3 = true := (hx346.1 _ hp323).1
  have hp350 : P344.2.1 4 = true := (hx346.1 _ hp324).1
  have hp351 : P344.2.1 5 = true := (hx346.1 _ hp325).1
  have hp352 : P344.2.1 6 = true := (hx346.1 _ hp326).1
  have hp353 : P344.2.1 7 = true := (hx346.1 _ hp327).1
  have hp354 : P344.2.1 8 = true := (hx346.1 _ hp328).1
  have hp355 : P344.2.1 9 = true := (hx346.1 _ hp329).1
  have hp356 : P344.2.1 10 = true := (hx346.1 _ hp330).1
  have hp357 : P344.2.1 11 = true := (hx346.1 _ hp331).1
  have hp358 : P344.2.1 12 = true := (hx346.1 _ hp332).1
  have hp359 : P344.2.1 13 = true := (hx346.1 _ hp333).1
  have hp360 : P344.2.1 14 = true := (hx346.1 _ hp334).1
  have hp361 : P344.2.1 15 = true := (hx346.1 _ hp335).1
  have hp362 : P344.2.1 16 = true := (hx346.1 _ hp336).1
  have hp363 : P344.2.1 17 = true := (hx346.1 _ hp337).1
  have hp364 : P344.2.1 18 = true := (hx346.1 _ hp338).1
  have hp365 : P344.2.1 19 = true := (hx346.1 _ hp339).1
  have hp366 : P344.2.1 20 = true := (hx346.1 _ hp340).1
  have hp367 : P344.2.1 21 = true := (by rw [hP345]; exact (pnew_at _ _ _).1)
  have hp367a : P344.1 21 = b343 := (show P344.1 21 = b343 by rw [hP345]; exact (pnew_at _ _ _).2)
  refine j_conv (lo' := [(0, .ref (P344.1 1)), (1, .int a1)]) (st' := [.ref (P344.1 21), .ref (P344.1 1)]) (by rw [(hx346.1 1 hp321).2] <;> rfl) (by rw [(hx346.1 1 hp321).2, hp367a] <;> rfl) ?_
  have hw368 : Pext P P344 := hw341.trans hx346
  refine j_nameM (fun M369 hM369 => ?_)
  replace h := h M369 hM369
  refine j_nameN (fun N370 hN370 => ?_)
  replace h := h N370 hN370
  refine r_putF (g := 1) (slot := 34) (x := 1) (ci := 12) (ty := .array .int) o hp347 rfl rfl (rfv_r (by decide)) rfl jin_X12 tyX12_ok nmX12 (by decide) rfl rfl rfl rfl jf_X12_70 (by decide +kernel) rfl rfl dX12_init_164 ?_
  refine j_aload_n o dX12_init_167 rfl ?_
  refine j_ldc o jk_X12_63 dX12_init_168 ?_
  obtain ⟨hf371, h⟩ := h
  refine r_newarr (g := 22) (ti := 1) (nn := 262144) (B := 262144) (atype := .long) (ty := .long) (a0 := (262144, .inr (.inl (fun _ => 0)))) o rfl (fun _ => rfl) (fun _ _ h => h) (fun _ => rfl) (iz_long _ List.mem_cons_self) rfl (Nat.le_refl _) (Nat.le_of_ble_eq_true rfl) (Nat.le_of_ble_eq_true rfl) hf371.hold (fun a tA e he => rnew_ar rfl rfl he) ⟨Nat.le_of_ble_eq_true rfl, Nat.le_of_ble_eq_true rfl⟩ dX12_init_170 (fun b372 => ?_)
  obtain ⟨P373, hP374⟩ : ∃ P9, P9 = pnew P344 22 b372 := ⟨_, rfl⟩
  rw [← hP374]
  replace h := h b372 P373 hP374
  have hx375 : Pext P344 P373 := (by rw [hP374]; exact Pext.new hf371.1)
  have hp376 : P373.2.1 1 = true := (hx375.1 _ hp347).1
  have hp377 : P373.2.1 2 = true := (hx375.1 _ hp348).1
  have hp378 : P373.2.1 3 = true := (hx375.1 _ hp349).1
  have hp379 : P373.2.1 4 = true := (hx375.1 _ hp350).1
  have hp380 : P373.2.1 5 = true := (hx375.1 _ hp351).1
  have hp381 : P373.2.1 6 = true := (hx375.1 _ hp352).1
  have hp382 : P373.2.1 7 = true := (hx375.1 _ hp353).1
  have hp383 : P373.2.1 8 = true := (hx375.1 _ hp354).1
  have hp384 : P373.2.1 9 = true := (hx375.1 _ hp355).1
  have hp385 : P373.2.1 10 = true := (hx375.1 _ hp356).1
  have hp386 : P373.2.1 11 = true := (hx375.1 _ hp357).1
  have hp387 : P373.2.1 12 = true := (hx375.1 _ hp358).1
  have hp388 : P373.2.1 13 = true := (hx375.1 _ hp359).1
  have hp389 : P373.2.1 14 = true := (hx375.1 _ hp360).1
  have hp390 : P373.2.1 15 = true := (hx375.1 _ hp361).1
  have hp391 : P373.2.1 16 = true := (hx375.1 _ hp362).1
  have hp392 : P373.2.1 17 = true := (hx375.1 _ hp363).1
  have hp393 : P373.2.1 18 = true := (hx375.1 _ hp364).1
  have hp394 : P373.2.1 19 = true := (hx375.1 _ hp365).1
  have hp395 : P373.2.1 20 = true := (hx375.1 _ hp366).1
  have hp396 : P373.2.1 21 = true := (hx375.1 _ hp367).1
  have hp397 : P373.2.1 22 = true := (by rw [hP374]; exact (pnew_at _ _ _).1)
  have hp397a : P373.1 22 = b372 := (show P373.1 22 = b372 by rw [hP374]; exact (pnew_at _ _ _).2)
  refine j_conv (lo' := [(0, .ref (P373.1 1)), (1, .int a1)]) (st' := [.ref (P373.1 22), .ref (P373.1 1)]) (by rw [(hx375.1 1 hp347).2] <;> rfl) (by rw [(hx375.1 1 hp347).2, hp397a] <;> rfl) ?_
  have hw398 : Pext P P373 := hw368.trans hx375
  refine r_putF (g := 1) (slot := 35) (x := 1) (ci := 12) (ty := .array .long) o hp376 rfl rfl (rfv_r (by decide)) rfl jin_X12 tyX12_ok nmX12 (by decide) rfl rfl rfl rfl jf_X12_73 (by decide +kernel) rfl rfl dX12_init_172 ?_
  refine j_nameM (fun M399 hM399 => ?_)
  replace h := h M399 hM399
  refine j_aload_n o dX12_init_175 rfl ?_
  refine j_sipush o (v := 1024) dX12_init_176 rfl ?_
  obtain ⟨hf400, h⟩ := h
  refine r_newarr (g := 23) (ti := 0) (nn := 1024) (B := 1024) (atype := .int) (ty := .int) (a0 := (1024, .inl (fun _ => 0))) o rfl (fun _ => rfl) (fun _ _ h => h) (fun _ => rfl) (iz_int _ List.mem_cons_self) rfl (Nat.le_refl _) (Nat.le_of_ble_eq_true rfl) (Nat.le_of_ble_eq_true rfl) hf400.hold (fun a tA e he => rnew_ar rfl rfl he) ⟨Nat.le_of_ble_eq_true rfl, Nat.le_of_ble_eq_true rfl⟩ dX12_init_179 (fun b401 => ?_)
  obtain ⟨P402, hP403⟩ : ∃ P9, P9 = pnew P373 23 b401 := ⟨_, rfl⟩
  rw [← hP403]
  replace h := h b401 P402 hP403
  have hx404 : Pext P373 P402 := (by rw [hP403]; exact Pext.new hf400.1)
  have hp405 : P402.2.1 1 = true := (hx404.1 _ hp376).1
  have hp406 : P402.2.1 2 = true := (hx404.1 _ hp377).1
  have hp407 : P402.2.1 3 = true := (hx404.1 _ hp378).1
  have hp408 : P402.2.1 4 = true := (hx404.1 _ hp379).1
  have hp409 : P402.2.1 5 = true := (hx404.1 _ hp380).1
  have hp410 : P402.2.1 6 = true := (hx404.1 _ hp381).1
  have hp411 : P402.2.1 7 = true := (hx404.1 _ hp382).1
  have hp412 : P402.2.1 8 = true := (hx404.1 _ hp383).1
  have hp413 : P402.2.1 9 = true := (hx404.1 _ hp384).1
  have hp414 : P402.2.1 10 = true := (hx404.1 _ hp385).1
  have hp415 : P402.2.1 11 = true := (hx404.1 _ hp386).1
  have hp416 : P402.2.1 12 = true := (hx404.1 _ hp387).1
  have hp417 : P402.2.1 13 = true := (hx404.1 _ hp388).1
  have hp418 : P402.2.1 14 = true := (hx404.1 _ hp389).1
  have hp419 : P402.2.1 15 = true := (hx404.1 _ hp390).1
  have hp420 : P402.2.1 16 = true := (hx404.1 _ hp391).1
  have hp421 : P402.2.1 17 = true := (hx404.1 _ hp392).1
  have hp422 : P402.2.1 18 = true := (hx404.1 _ hp393).1
  have hp423 : P402.2.1 19 = true := (hx404.1 _ hp394).1
  have hp424 : P402.2.1 20 = true := (hx404.1 _ hp395).1
  have hp425 : P402.2.1 21 = true := (hx404.1 _ hp396).1
  have hp426 : P402.2.1 22 = true := (hx404.1 _ hp397).1
  have hp427 : P402.2.1 23 = true := (by rw [hP403]; exact (pnew_at _ _ _).1)
  have hp427a : P402.1 23 = b401 := (show P402.1 23 = b401 by rw [hP403]; exact (pnew_at _ _ _).2)
  refine j_conv (lo' := [(0, .ref (P402.1 1)), (1, .int a1)]) (st' := [.ref (P402.1 23), .ref (P402.1 1)]) (by rw [(hx404.1 1 hp376).2] <;> rfl) (by rw [(hx404.1 1 hp376).2, hp427a] <;> rfl) ?_
  have hw428 : Pext P P402 := hw398.trans hx404
  refine r_putF (g := 1) (slot := 36) (x := 1) (ci := 12) (ty := .array .int) o hp405 rfl rfl (rfv_r (by decide)) rfl jin_X12 tyX12_ok nmX12 (by decide) rfl rfl rfl rfl jf_X12_77 (by decide +kernel) rfl rfl dX12_init_181 ?_
  refine j_aload_n o dX12_init_184 rfl ?_
  refine j_bipush o (v := 9) dX12_init_185 rfl ?_
  obtain ⟨hf429, h⟩ := h
  refine r_newarr (g := 24) (ti := 0) (nn := 9) (B := 9) (atype := .int) (ty := .int) (a0 := (9, .inl (fun _ => 0))) o rfl (fun _ => rfl) (fun _ _ h => h) (fun _ => rfl) (iz_int _ List.mem_cons_self) rfl (Nat.le_refl _) (Nat.le_of_ble_eq_true rfl) (Nat.le_of_ble_eq_true rfl) hf429.hold (fun a tA e he => rnew_ar rfl rfl he) ⟨Nat.le_of_ble_eq_true rfl, Nat.le_of_ble_eq_true rfl⟩ dX12_init_187 (fun b430 => ?_)
  obtain ⟨P431, hP432⟩ : ∃ P9, P9 = pnew P402 24 b430 := ⟨_, rfl⟩
  rw [← hP432]
  replace h := h b430 P431 hP432
  have hx433 : Pext P402 P431 := (by rw [hP432]; exact Pext.new hf429.1)
  have hp434 : P431.2.1 1 = true := (hx433.1 _ hp405).1
  have hp435 : P431.2.1 2 = true := (hx433.1 _ hp406).1
  have hp436 : P431.2.1 3 = true := (hx433.1 _ hp407).1
  have hp437 : P431.2.1 4 = true := (hx433.1 _ hp408).1
  have hp438 : P431.2.1 5 = true := (hx433.1 _ hp409).1
  have hp439 : P431.2.1 6 = true := (hx433.1 _ hp410).1
  have hp440 : P431.2.1 7 = true := (hx433.1 _ hp411).1
  have hp441 : P431.2.1 8 = true := (hx433.1 _ hp412).1
  have hp442 : P431.2.1 9 = true := (hx433.1 _ hp413).1
  have hp443 : P431.2.1 10 = true := (hx433.1 _ hp414).1
  have hp444 : P431.2.1 11 = true := (hx433.1 _ hp415).1
  have hp445 : P431.2.1 12 = true := (hx433.1 _ hp416).1
  have hp446 : P431.2.1 13 = true := (hx433.1 _ hp417).1
  have hp447 : P431.2.1 14 = true := (hx433.1 _ hp418).1
  have hp448 : P431.2.1 15 = true := (hx433.1 _ hp419).1
  have hp449 : P431.2.1 16 = true := (hx433.1 _ hp420).1
  have hp450 : P431.2.1 17 = true := (hx433.1 _ hp421).1
  have hp451 : P431.2.1 18 = true := (hx433.1 _ hp422).1
  have hp452 : P431.2.1 19 = true := (hx433.1 _ hp423).1
  have hp453 : P431.2.1 20 = true := (hx433.1 _ hp424).1
  have hp454 : P431.2.1 21 = true := (hx433.1 _ hp425).1
  have hp455 : P431.2.1 22 = true := (hx433.1 _ hp426).1
  have hp456 : P431.2.1 23 = true := (hx433.1 _ hp427).1
  have hp457 : P431.2.1 24 = true := (by rw [hP432]; exact (pnew_at _ _ _).1)
  have hp457a : P431.1 24 = b430 := (show P431.1 24 = b430 by rw [hP432]; exact (pnew_at _ _ _).2)
  refine j_conv (lo' := [(0, .ref (P431.1 1)), (1, .int a1)]) (st' := [.ref (P431.1 24), .ref (P431.1 1)]) (by rw [(hx433.1 1 hp405).2] <;> rfl) (by rw [(hx433.1 1 hp405).2, hp457a] <;> rfl) ?_
  have hw458 : Pext P P431 := hw428.trans hx433
  refine j_nameM (fun M459 hM459 => ?_)
  replace h := h M459 hM459
  refine j_nameN (fun N460 hN460 => ?_)
  replace h := h N460 hN460
  refine r_putF (g := 1) (slot := 38) (x := 1) (ci := 12) (ty := .array .int) o hp434 rfl rfl (rfv_r (by decide)) rfl jin_X12 tyX12_ok nmX12 (by decide) rfl rfl rfl rfl jf_X12_80 (by decide +kernel) rfl rfl dX12_init_189 ?_
  refine j_aload_n o dX12_init_192 rfl ?_
  refine j_sipush o (v := 4608) dX12_init_193 rfl ?_
  obtain ⟨hf461, h⟩ := h
  refine r_newarr (g := 25) (ti := 0) (nn := 4608) (B := 4608) (atype := .int) (ty := .int) (a0 := (4608, .inl (fun _ => 0))) o rfl (fun _ => rfl) (fun _ _ h => h) (fun _ => rfl) (iz_int _ List.mem_cons_self) rfl (Nat.le_refl _) (Nat.le_of_ble_eq_true rfl) (Nat.le_of_ble_eq_true rfl) hf461.hold (fun a tA e he => rnew_ar rfl rfl he) ⟨Nat.le_of_ble_eq_true rfl, Nat.le_of_ble_eq_true rfl⟩ dX12_init_196 (fun b462 => ?_)
  obtain ⟨P463, hP464⟩ : ∃ P9, P9 = pnew P431 25 b462 := ⟨_, rfl⟩
  rw [← hP464]
  replace h := h b462 P463 hP464
  have hx465 : Pext P431 P463 := (by rw [hP464]; exact Pext.new hf461.1)
  have hp466 : P463.2.1 1 = true := (hx465.1 _ hp434).1
  have hp467 : P463.2.1 2 = true := (hx465.1 _ hp435).1
  have hp468 : P463.2.1 3 = true := (hx465.1 _ hp436).1
  have hp469 : P463.2.1 4 = true := (hx465.1 _ hp437).1
  have hp470 : P463.2.1 5 = true := (hx465.1 _ hp438).1
  have hp471 : P463.2.1 6 = true := (hx465.1 _ hp439).1
  have hp472 : P463.2.1 7 = true := (hx465.1 _ hp440).1
  have hp473 : P463.2.1 8 = true := (hx465.1 _ hp441).1
  have hp474 : P463.2.1 9 = true := (hx465.1 _ hp442).1
  have hp475 : P463.2.1 10 = true := (hx465.1 _ hp443).1
  have hp476 : P463.2.1 11 = true := (hx465.1 _ hp444).1
  have hp477 : P463.2.1 12 = true := (hx465.1 _ hp445).1
  have hp478 : P463.2.1 13 = true := (hx465.1 _ hp446).1
  have hp479 : P463.2.1 14 = true := (hx465.1 _ hp447).1
  have hp480 : P463.2.1 15 = true := (hx465.1 _ hp448).1
  have hp481 : P463.2.1 16 = true := (hx465.1 _ hp449).1
  have hp482 : P463.2.1 17 = true := (hx465.1 _ hp450).1
  have hp483 : P463.2.1 18 = true := (hx465.1 _ hp451).1
  have hp484 : P463.2.1 19 = true := (hx465.1 _ hp452).1
  have hp485 : P463.2.1 20 = true := (hx465.1 _ hp453).1
  have hp486 : P463.2.1 21 = true := (hx465.1 _ hp454).1
  have hp487 : P463.2.1 22 = true := (hx465.1 _ hp455).1
  have hp488 : P463.2.1 23 = true := (hx465.1 _ hp456).1
  have hp489 : P463.2.1 24 = true := (hx465.1 _ hp457).1
  have hp490 : P463.2.1 25 = true := (by rw [hP464]; exact (pnew_at _ _ _).1)
  have hp490a : P463.1 25 = b462 := (show P463.1 25 = b462 by rw [hP464]; exact (pnew_at _ _ _).2)
  refine j_conv (lo' := [(0, .ref (P463.1 1)), (1, .int a1)]) (st' := [.ref (P463.1 25), .ref (P463.1 1)]) (by rw [(hx465.1 1 hp434).2] <;> rfl) (by rw [(hx465.1 1 hp434).2, hp490a] <;> rfl) ?_
  have hw491 : Pext P P463 := hw458.trans hx465
  refine r_putF (g := 1) (slot := 39) (x := 1) (ci := 12) (ty := .array .int) o hp466 rfl rfl (rfv_r (by decide)) rfl jin_X12 tyX12_ok nmX12 (by decide) rfl rfl rfl rfl jf_X12_83 (by decide +kernel) rfl rfl dX12_init_198 ?_
  refine j_nameM (fun M492 hM492 => ?_)
  replace h := h M492 hM492
  refine j_aload_n o dX12_init_201 rfl ?_
  refine j_sipush o (v := 512) dX12_init_202 rfl ?_
  obtain ⟨hf493, h⟩ := h
  refine r_newarr (g := 26) (ti := 0) (nn := 512) (B := 512) (atype := .int) (ty := .int) (a0 := (512, .inl (fun _ => 0))) o rfl (fun _ => rfl) (fun _ _ h => h) (fun _ => rfl) (iz_int _ List.mem_cons_self) rfl (Nat.le_refl _) (Nat.le_of_ble_eq_true rfl) (Nat.le_of_ble_eq_true rfl) hf493.hold (fun a tA e he => rnew_ar rfl rfl he) ⟨Nat.le_of_ble_eq_true rfl, Nat.le_of_ble_eq_true rfl⟩ dX12_init_205 (fun b494 => ?_)
  obtain ⟨P495, hP496⟩ : ∃ P9, P9 = pnew P463 26 b494 := ⟨_, rfl⟩
  rw [← hP496]
  replace h := h b494 P495 hP496
  have hx497 : Pext P463 P495 := (by rw [hP496]; exact Pext.new hf493.1)
  have hp498 : P495.2.1 1 = true := (hx497.1 _ hp466).1
  have hp499 : P495.2.1 2 = true := (hx497.1 _ hp467).1
  have hp500 : P495.2.1 3 = true := (hx497.1 _ hp468).1
  have hp501 : P495.2.1 4 = true := (hx497.1 _ hp469).1
  have hp502 : P495.2.1 5 = true := (hx497.1 _ hp470).1
  have hp503 : P495.2.1 6 = true := (hx497.1 _ hp471).1
  have hp504 : P495.2.1 7 = true := (hx497.1 _ hp472).1
  have hp505 : P495.2.1 8 = true := (hx497.1 _ hp473).1
  have hp506 : P495.2.1 9 = true := (hx497.1 _ hp474).1
  have hp507 : P495.2.1 10 = true := (hx497.1 _ hp475).1
  have hp508 : P495.2.1 11 = true := (hx497.1 _ hp476).1
  have hp509 : P495.2.1 12 = true := (hx497.1 _ hp477).1
  have hp510 : P495.2.1 13 = true := (hx497.1 _ hp478).1
  have hp511 : P495.2.1 14 = true := (hx497.1 _ hp479).1
  have hp512 : P495.2.1 15 = true := (hx497.1 _ hp480).1
  have hp513 : P495.2.1 16 = true := (hx497.1 _ hp481).1
  have hp514 : P495.2.1 17 = true := (hx497.1 _ hp482).1
  have hp515 : P495.2.1 18 = true := (hx497.1 _ hp483).1
  have hp516 : P495.2.1 19 = true := (hx497.1 _ hp484).1
  have hp517 : P495.2.1 20 = true := (hx497.1 _ hp485).1
  have hp518 : P495.2.1 21 = true := (hx497.1 _ hp486).1
  have hp519 : P495.2.1 22 = true := (hx497.1 _ hp487).1
  have hp520 : P495.2.1 23 = true := (hx497.1 _ hp488).1
  have hp521 : P495.2.1 24 = true := (hx497.1 _ hp489).1
  have hp522 : P495.2.1 25 = true := (hx497.1 _ hp490).1
  have hp523 : P495.2.1 26 = true := (by rw [hP496]; exact (pnew_at _ _ _).1)
  have hp523a : P495.1 26 = b494 := (show P495.1 26 = b494 by rw [hP496]; exact (pnew_at _ _ _).2)
  refine j_conv (lo' := [(0, .ref (P495.1 1)), (1, .int a1)]) (st' := [.ref (P495.1 26), .ref (P495.1 1)]) (by rw [(hx497.1 1 hp466).2] <;> rfl) (by rw [(hx497.1 1 hp466).2, hp523a] <;> rfl) ?_
  have hw524 : Pext P P495 := hw491.trans hx497
  refine r_putF (g := 1) (slot := 40) (x := 1) (ci := 12) (ty := .array .int) o hp498 rfl rfl (rfv_r (by decide)) rfl jin_X12 tyX12_ok nmX12 (by decide) rfl rfl rfl rfl jf_X12_86 (by decide +kernel) rfl rfl dX12_init_207 ?_
  refine j_aload_n o dX12_init_210 rfl ?_
  refine j_sipush o (v := 512) dX12_init_211 rfl ?_
  obtain ⟨hf525, h⟩ := h
  refine r_newarr (g := 27) (ti := 2) (nn := 512) (B := 512) (atype := .boolean) (ty := .boolean) (a0 := (512, .inl (fun _ => 0))) o rfl (fun _ => rfl) (fun _ _ h => h) (fun _ => rfl) (iz_boolean _ List.mem_cons_self) rfl (Nat.le_refl _) (Nat.le_of_ble_eq_true rfl) (Nat.le_of_ble_eq_true rfl) hf525.hold (fun a tA e he => rnew_ar rfl rfl he) ⟨Nat.le_of_ble_eq_true rfl, Nat.le_of_ble_eq_true rfl⟩ dX12_init_214 (fun b526 => ?_)
  obtain ⟨P527, hP528⟩ : ∃ P9, P9 = pnew P495 27 b526 := ⟨_, rfl⟩
  rw [← hP528]
  replace h := h b526 P527 hP528
  have hx529 : Pext P495 P527 := (by rw [hP528]; exact Pext.new hf525.1)
  have hp530 : P527.2.1 1 = true := (hx529.1 _ hp498).1
  have hp531 : P527.2.1 2 = true := (hx529.1 _ hp499).1
  have hp532 : P527.2.1 3 = true := (hx529.1 _ hp500).1
  have hp533 : P527.2.1 4 = true := (hx529.1 _ hp501).1
  have hp534 : P527.2.1 5 = true := (hx529.1 _ hp502).1
  have hp535 : P527.2.1 6 = true := (hx529.1 _ hp503).1
  have hp536 : P527.2.1 7 = true := (hx529.1 _ hp504).1
  have hp537 : P527.2.1 8 = true := (hx529.1 _ hp505).1
  have hp538 : P527.2.1 9 = true := (hx529.1 _ hp506).1
  have hp539 : P527.2.1 10 = true := (hx529.1 _ hp507).1
  have hp540 : P527.2.1 11 = true := (hx529.1 _ hp508).1
  have hp541 : P527.2.1 12 = true := (hx529.1 _ hp509).1
  have hp542 : P527.2.1 13 = true := (hx529.1 _ hp510).1
  have hp543 : P527.2.1 14 = true := (hx529.1 _ hp511).1
  have hp544 : P527.2.1 15 = true := (hx529.1 _ hp512).1
  have hp545 : P527.2.1 16 = true := (hx529.1 _ hp513).1
  have hp546 : P527.2.1 17 = true := (hx529.1 _ hp514).1
  have hp547 : P527.2.1 18 = true := (hx529.1 _ hp515).1
  have hp548 : P527.2.1 19 = true := (hx529.1 _ hp516).1
  have hp549 : P527.2.1 20 = true := (hx529.1 _ hp517).1
  have hp550 : P527.2.1 21 = true := (hx529.1 _ hp518).1
  have hp551 : P527.2.1 22 = true := (hx529.1 _ hp519).1
  have hp552 : P527.2.1 23 = true := (hx529.1 _ hp520).1
  have hp553 : P527.2.1 24 = true := (hx529.1 _ hp521).1
  have hp554 : P527.2.1 25 = true := (hx529.1 _ hp522).1
  have hp555 : P527.2.1 26 = true := (hx529.1 _ hp523).1
  have hp556 : P527.2.1 27 = true := (by rw [hP528]; exact (pnew_at _ _ _).1)
  have hp556a : P527.1 27 = b526 := (show P527.1 27 = b526 by rw [hP528]; exact (pnew_at _ _ _).2)
  refine j_conv (lo' := [(0, .ref (P527.1 1)), (1, .int a1)]) (st' := [.ref (P527.1 27), .ref (P527.1 1)]) (by rw [(hx529.1 1 hp498).2] <;> rfl) (by rw [(hx529.1 1 hp498).2, hp556a] <;> rfl) ?_
  have hw557 : Pext P P527 := hw524.trans hx529
  refine j_nameM (fun M558 hM558 => ?_)
  replace h := h M558 hM558
  refine j_nameN (fun N559 hN559 => ?_)
  replace h := h N559 hN559
  refine r_putF (g := 1) (slot := 41) (x := 1) (ci := 12) (ty := .array .boolean) o hp530 rfl rfl (rfv_r (by decide)) rfl jin_X12 tyX12_ok nmX12 (by decide) rfl rfl rfl rfl jf_X12_89 (by decide +kernel) rfl rfl dX12_init_216 ?_
  refine j_aload_n o dX12_init_219 rfl ?_
  refine j_bipush o (v := 20) dX12_init_220 rfl ?_
  obtain ⟨hf560, h⟩ := h
  refine r_newarr (g := 28) (ti := 0) (nn := 20) (B := 20) (atype := .int) (ty := .int) (a0 := (20, .inl (fun _ => 0))) o rfl (fun _ => rfl) (fun _ _ h => h) (fun _ => rfl) (iz_int _ List.mem_cons_self) rfl (Nat.le_refl _) (Nat.le_of_ble_eq_true rfl) (Nat.le_of_ble_eq_true rfl) hf560.hold (fun a tA e he => rnew_ar rfl rfl he) ⟨Nat.le_of_ble_eq_true rfl, Nat.le_of_ble_eq_true rfl⟩ dX12_init_222 (fun b561 => ?_)
  obtain ⟨P562, hP563⟩ : ∃ P9, P9 = pnew P527 28 b561 := ⟨_, rfl⟩
  rw [← hP563]
  replace h := h b561 P562 hP563
  have hx564 : Pext P527 P562 := (by rw [hP563]; exact Pext.new hf560.1)
  have hp565 : P562.2.1 1 = true := (hx564.1 _ hp530).1
  have hp566 : P562.2.1 2 = true := (hx564.1 _ hp531).1
  have hp567 : P562.2.1 3 = true := (hx564.1 _ hp532).1
  have hp568 : P562.2.1 4 = true := (hx564.1 _ hp533).1
  have hp569 : P562.2.1 5 = true := (hx564.1 _ hp534).1
  have hp570 : P562.2.1 6 = true := (hx564.1 _ hp535).1
  have hp571 : P562.2.1 7 = true := (hx564.1 _ hp536).1
  have hp572 : P562.2.1 8 = true := (hx564.1 _ hp537).1
  have hp573 : P562.2.1 9 = true := (hx564.1 _ hp538).1
  have hp574 : P562.2.1 10 = true := (hx564.1 _ hp539).1
  have hp575 : P562.2.1 11 = true := (hx564.1 _ hp540).1
  have hp576 : P562.2.1 12 = true := (hx564.1 _ hp541).1
  have hp577 : P562.2.1 13 = true := (hx564.1 _ hp542).1
  have hp578 : P562.2.1 14 = true := (hx564.1 _ hp543).1
  have hp579 : P562.2.1 15 = true := (hx564.1 _ hp544).1
  have hp580 : P562.2.1 16 = true := (hx564.1 _ hp545).1
  have hp581 : P562.2.1 17 = true := (hx564.1 _ hp546).1
  have hp582 : P562.2.1 18 = true := (hx564.1 _ hp547).1
  have hp583 : P562.2.1 19 = true := (hx564.1 _ hp548).1
  have hp584 : P562.2.1 20 = true := (hx564.1 _ hp549).1
  have hp585 : P562.2.1 21 = true := (hx564.1 _ hp550).1
  have hp586 : P562.2.1 22 = true := (hx564.1 _ hp551).1
  have hp587 : P562.2.1 23 = true := (hx564.1 _ hp552).1
  have hp588 : P562.2.1 24 = true := (hx564.1 _ hp553).1
  have hp589 : P562.2.1 25 = true := (hx564.1 _ hp554).1
  have hp590 : P562.2.1 26 = true := (hx564.1 _ hp555).1
  have hp591 : P562.2.1 27 = true := (hx564.1 _ hp556).1
  have hp592 : P562.2.1 28 = true := (by rw [hP563]; exact (pnew_at _ _ _).1)
  have hp592a : P562.1 28 = b561 := (show P562.1 28 = b561 by rw [hP563]; exact (pnew_at _ _ _).2)
  refine j_conv (lo' := [(0, .ref (P562.1 1)), (1, .int a1)]) (st' := [.ref (P562.1 28), .ref (P562.1 1)]) (by rw [(hx564.1 1 hp530).2] <;> rfl) (by rw [(hx564.1 1 hp530).2, hp592a] <;> rfl) ?_
  have hw593 : Pext P P562 := hw557.trans hx564
  refine r_putF (g := 1) (slot := 42) (x := 1) (ci := 12) (ty := .array .int) o hp565 rfl rfl (rfv_r (by decide)) rfl jin_X12 tyX12_ok nmX12 (by decide) rfl rfl rfl rfl jf_X12_92 (by decide +kernel) rfl rfl dX12_init_224 ?_
  refine j_nameM (fun M594 hM594 => ?_)
  replace h := h M594 hM594
  refine j_aload_n o dX12_init_227 rfl ?_
  refine j_bipush o (v := 20) dX12_init_228 rfl ?_
  obtain ⟨hf595, h⟩ := h
  refine r_newarr (g := 29) (ti := 0) (nn := 20) (B := 20) (atype := .int) (ty := .int) (a0 := (20, .inl (fun _ => 0))) o rfl (fun _ => rfl) (fun _ _ h => h) (fun _ => rfl) (iz_int _ List.mem_cons_self) rfl (Nat.le_refl _) (Nat.le_of_ble_eq_true rfl) (Nat.le_of_ble_eq_true rfl) hf595.hold (fun a tA e he => rnew_ar rfl rfl he) ⟨Nat.le_of_ble_eq_true rfl, Nat.le_of_ble_eq_true rfl⟩ dX12_init_230 (fun b596 => ?_)
  obtain ⟨P597, hP598⟩ : ∃ P9, P9 = pnew P562 29 b596 := ⟨_, rfl⟩
  rw [← hP598]
  replace h := h b596 P597 hP598
  have hx599 : Pext P562 P597 := (by rw [hP598]; exact Pext.new hf595.1)
  have hp600 : P597.2.1 1 = true := (hx599.1 _ hp565).1
  have hp601 : P597.2.1 2 = true := (hx599.1 _ hp566).1
  have hp602 : P597.2.1 3 = true := (hx599.1 _ hp567).1
  have hp603 : P597.2.1 4 = true := (hx599.1 _ hp568).1
  have hp604 : P597.2.1 5 = true := (hx599.1 _ hp569).1
  have hp605 : P597.2.1 6 = true := (hx599.1 _ hp570).1
  have hp606 : P597.2.1 7 = true := (hx599.1 _ hp571).1
  have hp607 : P597.2.1 8 = true := (hx599.1 _ hp572).1
  have hp608 : P597.2.1 9 = true := (hx599.1 _ hp573).1
  have hp609 : P597.2.1 10 = true := (hx599.1 _ hp574).1
  have hp610 : P597.2.1 11 = true := (hx599.1 _ hp575).1
  have hp611 : P597.2.1 12 = true := (hx599.1 _ hp576).1
  have hp612 : P597.2.1 13 = true := (hx599.1 _ hp577).1
  have hp613 : P597.2.1 14 = true := (hx599.1 _ hp578).1
  have hp614 : P597.2.1 15 = true := (hx599.1 _ hp579).1
  have hp615 : P597.2.1 16 = true := (hx599.1 _ hp580).1
  have hp616 : P597.2.1 17 = true := (hx599.1 _ hp581).1
  have hp617 : P597.2.1 18 = true := (hx599.1 _ hp582).1
  have hp618 : P597.2.1 19 = true := (hx599.1 _ hp583).1
  have hp619 : P597.2.1 20 = true := (hx599.1 _ hp584).1
  have hp620 : P597.2.1 21 = true := (hx599.1 _ hp585).1
  have hp621 : P597.2.1 22 = true := (hx599.1 _ hp586).1
  have hp622 : P597.2.1 23 = true := (hx599.1 _ hp587).1
  have hp623 : P597.2.1 24 = true := (hx599.1 _ hp588).1
  have hp624 : P597.2.1 25 = true := (hx599.1 _ hp589).1
  have hp625 : P597.2.1 26 = true := (hx599.1 _ hp590).1
  have hp626 : P597.2.1 27 = true := (hx599.1 _ hp591).1
  have hp627 : P597.2.1 28 = true := (hx599.1 _ hp592).1
  have hp628 : P597.2.1 29 = true := (by rw [hP598]; exact (pnew_at _ _ _).1)
  have hp628a : P597.1 29 = b596 := (show P597.1 29 = b596 by rw [hP598]; exact (pnew_at _ _ _).2)
  refine j_conv (lo' := [(0, .ref (P597.1 1)), (1, .int a1)]) (st' := [.ref (P597.1 29), .ref (P597.1 1)]) (by rw [(hx599.1 1 hp565).2] <;> rfl) (by rw [(hx599.1 1 hp565).2, hp628a] <;> rfl) ?_
  have hw629 : Pext P P597 := hw593.trans hx599
  refine r_putF (g := 1) (slot := 43) (x := 1) (ci := 12) (ty := .array .int) o hp600 rfl rfl (rfv_r (by decide)) rfl jin_X12 tyX12_ok nmX12 (by decide) rfl rfl rfl rfl jf_X12_95 (by decide +kernel) rfl rfl dX12_init_232 ?_
  refine j_aload_n o dX12_init_235 rfl ?_
  refine j_iconst o (v := 1) dX12_init_236 rfl ?_
  refine j_bipush o (v := 9) dX12_init_237 rfl ?_
  refine j_iload_n o dX12_init_239 rfl ?_
  refine j_mmin o dX12_init_240 jc_X12_98 rfl ?_
  refine j_mmax o dX12_init_243 jc_X12_104 rfl ?_
  refine r_putF (g := 1) (slot := 1) (x := (if 1 < (if a1 < 9 then a1 else 9) then (if a1 < 9 then a1 else 9) else 1)) (ci := 12) (ty := .int) o hp600 rfl rfl rfv_i rfl jin_X12 tyX12_ok nmX12 (by decide) rfl rfl rfl rfl jf_X12_107 (by decide +kernel) rfl rfl dX12_init_246 ?_
  refine j_nameM (fun M630 hM630 => ?_)
  replace h := h M630 hM630
  refine j_aload_n o dX12_init_249 rfl ?_
  refine j_iconst o (v := 1) dX12_init_250 rfl ?_
  refine j_aload_n o dX12_init_251 rfl ?_
  refine r_get (g := 1) (slot := 1) (ci := 12) (v := .int (M630 1 1)) o hp600 rfl rfl rfl rfl jin_X12 (by decide) rfl jf_X12_107 dX12_init_252 ?_
  refine j_ishl o dX12_init_255 ?_
  refine r_putF (g := 1) (slot := 2) (x := (1 : Int32) <<< ((M630 1 1) &&& 31)) (ci := 12) (ty := .int) o hp600 rfl rfl rfv_i rfl jin_X12 tyX12_ok nmX12 (by decide) rfl rfl rfl rfl jf_X12_111 (by decide +kernel) rfl rfl dX12_init_256 ?_
  refine j_nameM (fun M631 hM631 => ?_)
  replace h := h M631 hM631
  refine j_iconst o (v := 0) dX12_init_259 rfl ?_
  refine j_istore_n o [(2, .int 0), (0, .ref (P597.1 1)), (1, .int a1)] dX12_init_260 (by decide) rfl ?_
  replace h := h (fun (x632 : Int32) (M633 : jM) => J X P597 M633 (zN (zN N559 28) 29) 28 1067131 E 3 261 [(0, .ref (P597.1 1)), (2, .int x632)] []) (by
    intro x632 M633 h
    refine j_iload_n o dX12_init_261 rfl ?_
    refine j_bipush o (v := 9) dX12_init_262 rfl ?_
    refine j_icmp_ge o (tgt := 280) dX12_init_264 (by decide) (fun c634 => ?_) (fun c634 => ?_)
    · replace h := h.1 c634
      refine j_iconst o (v := 0) dX12_init_280 rfl ?_
      refine j_istore_n o [(2, .int 0), (0, .ref (P597.1 1))] dX12_init_281 (by decide) rfl ?_
      replace h := h (fun (x635 : Int32) (M636 : jM) => J X P597 M636 (zN (zN N559 28) 29) 28 1067131 E 3 282 [(0, .ref (P597.1 1)), (2, .int x635)] []) (by
        intro x635 M636 h
        refine j_iload_n o dX12_init_282 rfl ?_
        refine j_bipush o (v := 10) dX12_init_283 rfl ?_
        refine j_icmp_ge o (tgt := 301) dX12_init_285 (by decide) (fun c637 => ?_) (fun c637 => ?_)
        · replace h := h.1 c637
          rw [hE]
          exact j_vret o dX12_init_301 ⟨rfl, hw629, h⟩
        · replace h := h.2 c637
          refine j_aload_n o dX12_init_288 rfl ?_
          obtain ⟨hz638, h⟩ := h
          refine r_get (g := 1) (slot := 22) (ci := 12) (v := .ref (P597.1 13)) o hp600 rfl rfl (rfv_r0 (by decide) hz638) rfl jin_X12 (by decide) rfl jf_X12_44 dX12_init_289 ?_
          refine j_iload_n o dX12_init_292 rfl ?_
          refine j_iconst o (v := 1) dX12_init_293 rfl ?_
          obtain ⟨hb639, h⟩ := h
          refine j_iast o (g := 13) (fun tA f h => (LR_ar hp612 rfl tA f h).trans rfl) hb639 dX12_init_294 ?_
          refine j_nameM (fun M640 hM640 => ?_)
          replace h := h M640 hM640
          refine j_iinc o (v := x635 + 1) [(2, .int (x635 + 1)), (0, .ref (P597.1 1))] dX12_init_295 rfl rfl (by decide) rfl ?_
          refine j_goto o (tgt := 282) dX12_init_298 (by decide) ?_
          exact j_pick [1, 0] rfl h)
      exact j_pick [1, 0] rfl h
    · replace h := h.2 c634
      refine j_aload_n o dX12_init_267 rfl ?_
      obtain ⟨hz641, h⟩ := h
      refine r_get (g := 1) (slot := 21) (ci := 12) (v := .ref (P597.1 12)) o hp600 rfl rfl (rfv_r0 (by decide) hz641) rfl jin_X12 (by decide) rfl jf_X12_41 dX12_init_268 ?_
      refine j_iload_n o dX12_init_271 rfl ?_
      refine j_iconst o (v := 1) dX12_init_272 rfl ?_
      obtain ⟨hb642, h⟩ := h
      refine j_iast o (g := 12) (fun tA f h => (LR_ar hp611 rfl tA f h).trans rfl) hb642 dX12_init_273 ?_
      refine j_nameM (fun M643 hM643 => ?_)
      replace h := h M643 hM643
      refine j_iinc o (v := x632 + 1) [(2, .int (x632 + 1)), (0, .ref (P597.1 1))] dX12_init_274 rfl rfl (by decide) rfl ?_
      refine j_goto o (tgt := 261) dX12_init_277 (by decide) ?_
      exact j_pick [1, 0] rfl h)
  exact j_pick [1, 0] rfl h
