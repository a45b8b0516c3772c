/-! SAYS and LEADS of the law: the exception caught -/
theorem jl_49 : ∀ w ∈ ([.methodLink RL 49 yL_says, .static yL_says, .initialized yL_says.cls, .codeWith yL_says cL_says 5 (some .int) [(0, 10, 13, 13)]] : List Cond), w ∈ jw_tbl := jw_ws [1118, 1119, 105, 1120] (by decide +kernel) (by decide +kernel)
theorem jl_82 : ∀ w ∈ ([.methodLink RL 82 yL_leads, .static yL_leads, .initialized yL_leads.cls, .codeWith yL_leads cL_leads 5 (some .int) [(0, 10, 13, 13)]] : List Cond), w ∈ jw_tbl := jw_ws [1187, 1188, 105, 1189] (by decide +kernel) (by decide +kernel)
theorem jnL_cell : jNm yL_cell 2 := by decide +kernel
theorem jnL_says : jNm yL_says 4 := by decide +kernel
theorem jnL_leads : jNm yL_leads 4 := by decide +kernel
abbrev rm_L_says : Room := { frames := 7, cells := 1, slots := 6, locals := 112 }
def qSays (P : jP) (Mc Mm : jM) (Nc Nm : jN) (h : Nat → Int64) (QI : Int64 → Prop) (QE : Prop) : Option Value → jP → jM → jN → Prop := fun v P' M' N' => P' = P ∧ M' = cmb Mc Mm ∧ ((∃ h', N' = cmbN Nc Nm h' ∧ v = some (.int 0) ∧ QI (h' 0)) ∨ (N' = cmbN Nc Nm h ∧ v = some (.int 1) ∧ QE))
theorem in01 : vp_in 0 1 := by unfold vp_in; decide
theorem c_L_says (l : Launch) (hfl : l.stackTraces = false) (P : jP) (hp : P.2.1 2000 = true) (a1 a2 : Int32) (Mc Mm : jM) (Nc Nm : jN) (h : Nat → Int64) (QI : Int64 → Prop) (QE : Prop) (hw : w_X11_says P a1 a2 Mc (fun r => QI r.toInt64) QE) : jCW l yL_says cL_says 5 (some .int) [(0, 10, 13, 13)] rm_L_says LW [.ref (P.1 1), .int a1, .int a2, .ref (P.1 2000)] P (cmb Mc Mm) (cmbN Nc Nm h) (qSays P Mc Mm Nc Nm h QI QE) := by
  refine jCW_of (by decide +kernel) [(0, .ref (P.1 1)), (1, .int a1), (2, .int a2), (3, .ref (P.1 2000))] (Nat.le_of_ble_eq_true rfl) rfl (fun X o u => ?_)
  refine j_aload_n o dL_says_0 rfl ?_
  refine j_iconst o (v := 0) dL_says_1 rfl ?_
  refine j_aload_n o dL_says_2 rfl ?_
  refine j_iload_n o dL_says_3 rfl ?_
  refine j_iload_n o dL_says_4 rfl ?_
  refine j_callVT (φ := fun q => q) (g := 1) (ci := 11) o u (sub_c LC_far) (c_X11_says l hfl P a1 a2 Mc Nc _ _ hw) dL_says_5 jc_L_7 (jNm_2 jn_X11_says rfl) ⟨⟨Nat.le_of_ble_eq_true rfl, Nat.le_of_ble_eq_true rfl⟩, Nat.le_of_ble_eq_true rfl, Nat.le_of_ble_eq_true rfl⟩ rfl (fun _ => rfl) (Nat.le_of_ble_eq_true rfl) rfl (by decide) (by decide) nse_cl.2.2 (fun Pb Mb Nb q => ?_) (fun v Pb Mb Nb q => ?_)
  · obtain ⟨rfl, rfl, rfl, q⟩ := q
    refine ⟨_, _, _, dec_c LC_far, fun a => ?_⟩
    refine j_astore o [(4, .ref a), (0, .ref (Pb.1 1)), (1, .int a1), (2, .int a2), (3, .ref (Pb.1 2000))] dL_says_13 (by decide) rfl ?_
    refine j_iconst o (v := 1) dL_says_15 rfl ?_
    exact j_iret o dL_says_16 ⟨rfl, rfl, Or.inr ⟨rfl, rfl, q⟩⟩
  · obtain ⟨r, rfl, rfl, rfl, rfl, q⟩ := q
    refine ⟨_, _, _, dec_c LC_far, ?_⟩
    refine j_i2l o dL_says_8 ?_
    refine j_last o (g := 2000) (nn := 1) (fun tA f g => LWg_o hp) in01 dL_says_9 ?_
    rw [show (0 : Int32).toNatClampNeg = 0 from rfl, cmb_upN]
    refine j_goto o (tgt := 17) dL_says_10 (by decide) ?_
    refine j_iconst o (v := 0) dL_says_17 rfl ?_
    exact j_iret o dL_says_18 ⟨rfl, rfl, Or.inl ⟨_, rfl, rfl, q⟩⟩
theorem c_L_leads (l : Launch) (hfl : l.stackTraces = false) (P : jP) (hp : P.2.1 2000 = true) (a1 a2 : Int32) (Mc Mm : jM) (Nc Nm : jN) (h : Nat → Int64) (QI : Int64 → Prop) (QE : Prop) (hw : w_X11_leads P a1 a2 Mc (fun r => QI r.toInt64) QE) : jCW l yL_leads cL_leads 5 (some .int) [(0, 10, 13, 13)] rm_L_says LW [.ref (P.1 1), .int a1, .int a2, .ref (P.1 2000)] P (cmb Mc Mm) (cmbN Nc Nm h) (qSays P Mc Mm Nc Nm h QI QE) := by
  refine jCW_of (by decide +kernel) [(0, .ref (P.1 1)), (1, .int a1), (2, .int a2), (3, .ref (P.1 2000))] (Nat.le_of_ble_eq_true rfl) rfl (fun X o u => ?_)
  refine j_aload_n o dL_leads_0 rfl ?_
  refine j_iconst o (v := 0) dL_leads_1 rfl ?_
  refine j_aload_n o dL_leads_2 rfl ?_
  refine j_iload_n o dL_leads_3 rfl ?_
  refine j_iload_n o dL_leads_4 rfl ?_
  refine j_callVT (φ := fun q => q) (g := 1) (ci := 11) o u (sub_c LC_far) (c_X11_leads l hfl P a1 a2 Mc Nc _ _ hw) dL_leads_5 jc_L_15 (jNm_2 jn_X11_leads rfl) ⟨⟨Nat.le_of_ble_eq_true rfl, Nat.le_of_ble_eq_true rfl⟩, Nat.le_of_ble_eq_true rfl, Nat.le_of_ble_eq_true rfl⟩ rfl (fun _ => rfl) (Nat.le_of_ble_eq_true rfl) rfl (by decide) (by decide) nse_cl.2.2 (fun Pb Mb Nb q => ?_) (fun v Pb Mb Nb q => ?_)
  · obtain ⟨rfl, rfl, rfl, q⟩ := q
    refine ⟨_, _, _, dec_c LC_far, fun a => ?_⟩
    refine j_astore o [(4, .ref a), (0, .ref (Pb.1 1)), (1, .int a1), (2, .int a2), (3, .ref (Pb.1 2000))] dL_leads_13 (by decide) rfl ?_
    refine j_iconst o (v := 1) dL_leads_15 rfl ?_
    exact j_iret o dL_leads_16 ⟨rfl, rfl, Or.inr ⟨rfl, rfl, q⟩⟩
  · obtain ⟨r, rfl, rfl, rfl, rfl, q⟩ := q
    refine ⟨_, _, _, dec_c LC_far, ?_⟩
    refine j_i2l o dL_leads_8 ?_
    refine j_last o (g := 2000) (nn := 1) (fun tA f g => LWg_o hp) in01 dL_leads_9 ?_
    rw [show (0 : Int32).toNatClampNeg = 0 from rfl, cmb_upN]
    refine j_goto o (tgt := 17) dL_leads_10 (by decide) ?_
    refine j_iconst o (v := 0) dL_leads_17 rfl ?_
    exact j_iret o dL_leads_18 ⟨rfl, rfl, Or.inl ⟨_, rfl, rfl, q⟩⟩
