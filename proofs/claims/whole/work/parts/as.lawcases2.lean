/-! THE LAW'S CASES: text, says, leads -/
section CAT
variable {nm : String} {X : jX} {P : jP} {Mc Mm : jM} {Nc Nm : jN} {h : Nat → Int64} {k n : Nat} {E : State → Prop} {l0 : Launch} {A : aS} {t b Ls i : Nat} {xs : Nat → Int32}
theorem loL_ext {P P' : jP} {A : aS} (hP : PM P) (hA : presX P A) (e : Pext P P') : loL P b i = loL P' b i := by
  show [(4, Value.int (nI i)), (0, .ref b), (1, .ref (P.1 1)), (2, .ref (P.1 1001)), (3, .ref (P.1 2000))] = [(4, Value.int (nI i)), (0, .ref b), (1, .ref (P'.1 1)), (2, .ref (P'.1 1001)), (3, .ref (P'.1 2000))]
  rw [(e.1 1 ((hA 1 (by omega)).mpr (Or.inl ⟨by omega, by omega⟩))).2, (e.1 1001 (hP.1 _ (by omega) (by omega))).2, (e.1 2000 hP.2).2]
abbrev KT (X : jX) (A : aS) (t k n q : Nat) (E : State → Prop) (b i : Nat) : Prop := ∀ (P' : jP) (Mb Mn : jM) (Nb Nn : jN) (g : Nat → Int64) (A' : aS), PM P' → A'.1 2 = A.1 2 + q → wfX A' → GC P' Mb Nb A' (t + 1) → RelM Mn A' → J X P' (cmb Mb Mn) (cmbN Nb Nn g) k n E 7 2070 (loL P' b i) []
set_option maxRecDepth 20000 in
theorem case_textS (o : jokL X l0 nm) (S : jSc X b Ls xs) (hP : PM P) (hG : GC P Mc Nc A t) (hi : i + 5 < Ls) (hL : Ls ≤ 3073) (hk : k + 5 ≤ 601024) (hn : n + 20726 ≤ 7293000) {v : Int32} {A2 : aS} (hX2 : wfX A2) (e2 : A2.1 2 = A.1 2 + 0) (h1 : ∀ Q : Int32 → jP → jM → jN → Prop, (∀ P' M' N', P'.2.2 = P.2.2 → GC P' M' N' A2 (t + 1) → Q v P' M' N') → w_X11_textS P (xs (i + 1)) (glA A) (gfA A) Mc Nc Q) (h2 : ∀ (sP : jP) (Q : Int32 → jM → Prop), (∀ M', RelM M' A2 → Q v M') → w_X12_text sP (xs (i + 1)) Mm Q) (K : KT X A t (k + 4) (n + 40) 0 E b i) : J X P (cmb Mc Mm) (cmbN Nc Nm h) k n E 7 359 (loL P b i) [] := by
  refine j_aload_n o dL_law_359 rfl ?_
  refine j_arg o S 1 rfl rfl (by omega) hL dL_law_360 dL_law_361 dL_law_363 dL_law_364 dL_law_365 ?_
  refine j_ct (v := v) (G := fun P' M' N' => P'.2.2 = P.2.2 ∧ GC P' M' N' A2 (t + 1)) o hP (c_X11_textS l0 P (xs (i + 1)) (glA A) (gfA A) Mc Nc _ (h1 _ (fun P' M' N' a c => ⟨rfl, a, c⟩))) dL_law_366 jc_L_45 jn_X11_text rfl ⟨⟨Nat.le_of_ble_eq_true rfl, Nat.le_of_ble_eq_true rfl⟩, (by show k + 4 ≤ 601024; omega), (by show n + 40 ≤ 7293000; omega)⟩ rfl rfl (fun Pb Mb Nb e g => ?_)
  have hPb := hP.ext e
  refine j_conv (lo' := loL Pb b i) (loL_ext hP hG.2.1 e) rfl ?_
  refine j_aload_n o dL_law_369 rfl ?_
  refine j_arg o S 1 rfl rfl (by omega) hL dL_law_370 dL_law_371 dL_law_373 dL_law_374 dL_law_375 ?_
  refine j_mc (v0 := .int v) (G := fun M' N' => RelM M' A2) o ((c_X12_text l0 (shP Pb) (xs (i + 1)) Mm Nm (fun r M' => r = v ∧ RelM M' A2) (h2 _ _ (fun M' r => ⟨rfl, r⟩))).mono (fun r P' M' N' z => by
    obtain ⟨r, e1, e2, e3, e4, e5⟩ := z
    exact ⟨by rw [e1, e4], e2, e5⟩)) dL_law_376 jc_L_48 jn_X12_text rfl rfl (by show k + 4 ≤ 601024; omega) (by show n + 40 ≤ 7293000; omega) rfl rfl (fun Mn Nn g2 => ?_)
  exact j_icmp_eq o (tgt := 2070) dL_law_379 (by decide) (fun _ => K Pb Mb Mn Nb Nn _ A2 hPb e2 hX2 g.2 g2) (fun z => absurd rfl z)
set_option maxRecDepth 20000 in
theorem case_text (o : jokL X l0 nm) (S : jSc X b Ls xs) (hP : PM P) (hG : GC P Mc Nc A t) (hi : i + 5 < Ls) (hL : Ls ≤ 3073) (hk : k + 5 ≤ 601024) (hn : n + 20726 ≤ 7293000) {v : Int32} {A2 : aS} (hX2 : wfX A2) (e2 : A2.1 2 = A.1 2 + 1) (h1 : ∀ Q : Int32 → jP → jM → jN → Prop, (∀ P' M' N', P'.2.2 = P.2.2 → GC P' M' N' A2 (t + 1) → Q v P' M' N') → w_X11_text P (xs (i + 1)) (glA A) (gfA A) Mc Nc Q) (h2 : ∀ (sP : jP) (Q : Int32 → jM → Prop), (∀ M', RelM M' A2 → Q v M') → w_X12_text sP (xs (i + 1)) Mm Q) (K : KT X A t (k + 5) (n + 20726) 1 E b i) : J X P (cmb Mc Mm) (cmbN Nc Nm h) k n E 7 359 (loL P b i) [] := by
  refine j_aload_n o dL_law_359 rfl ?_
  refine j_arg o S 1 rfl rfl (by omega) hL dL_law_360 dL_law_361 dL_law_363 dL_law_364 dL_law_365 ?_
  refine j_ct (v := v) (G := fun P' M' N' => P'.2.2 = P.2.2 ∧ GC P' M' N' A2 (t + 1)) o hP (c_X11_text l0 P (xs (i + 1)) (glA A) (gfA A) Mc Nc _ (h1 _ (fun P' M' N' a c => ⟨rfl, a, c⟩))) dL_law_366 jc_L_45 jn_X11_text rfl ⟨⟨Nat.le_of_ble_eq_true rfl, Nat.le_of_ble_eq_true rfl⟩, (by show k + 5 ≤ 601024; omega), (by show n + 20726 ≤ 7293000; omega)⟩ rfl rfl (fun Pb Mb Nb e g => ?_)
  have hPb := hP.ext e
  refine j_conv (lo' := loL Pb b i) (loL_ext hP hG.2.1 e) rfl ?_
  refine j_aload_n o dL_law_369 rfl ?_
  refine j_arg o S 1 rfl rfl (by omega) hL dL_law_370 dL_law_371 dL_law_373 dL_law_374 dL_law_375 ?_
  refine j_mc (v0 := .int v) (G := fun M' N' => RelM M' A2) o ((c_X12_text l0 (shP Pb) (xs (i + 1)) Mm Nm (fun r M' => r = v ∧ RelM M' A2) (h2 _ _ (fun M' r => ⟨rfl, r⟩))).mono (fun r P' M' N' z => by
    obtain ⟨r, e1, e2, e3, e4, e5⟩ := z
    exact ⟨by rw [e1, e4], e2, e5⟩)) dL_law_376 jc_L_48 jn_X12_text rfl rfl (by show k + 5 ≤ 601024; omega) (by show n + 20726 ≤ 7293000; omega) rfl rfl (fun Mn Nn g2 => ?_)
  exact j_icmp_eq o (tgt := 2070) dL_law_379 (by decide) (fun _ => K Pb Mb Mn Nb Nn _ A2 hPb e2 hX2 g.2 g2) (fun z => absurd rfl z)
set_option maxRecDepth 20000 in
theorem j_mcE {lo : List (Nat × Value)} {st st0 : List Value} {pc : Nat} {y2 : MethodName} {cc2 : ByteArray} {nL2 : Nat} {ret2 : Option FieldType} {rm2 : Room} {as : List Value} {ix : Nat} {Q : Int32 → jM → Prop} {an : Nat} (o : jokL X l0 nm) (hM : jC l0 y2 cc2 nL2 ret2 rm2 LM (.ref ((shP P).1 1) :: as) (shP P) Mm Nm (jqi (shP P) (fun r M' N' => Nm = N' ∧ Q r M'))) (hd : decode cL_law pc = .ok (.invokevirtual ix, 3)) (hw : ∀ w ∈ ([.methodLink RL ix y2, .instanceMethod y2, .selects RX12 y2 y2, .initialized y2.cls, .code y2 cc2 nL2 ret2] : List Cond), w ∈ jw_tbl) (hn : jNm y2 an) (hlen : as.length = an) (hr : jRz rm2 nL2 = true) (hk : k ≤ 601024) (hnn : n ≤ 7293000) (hcat : Nat.ble (st.map fun v => v.category).sum 8 = true) (hst : st0 = as.reverse ++ .ref (P.1 1001) :: st)
    (kk : ∀ r Mb, Q r Mb → J X P (cmb Mc Mb) (cmbN Nc Nm h) k n E 7 (pc + 3) lo (.int r :: st)) : J X P (cmb Mc Mm) (cmbN Nc Nm h) k n E 7 pc lo st0 := by
  obtain ⟨r1, r2, r3⟩ := jRz_ok hr hk hnn
  refine j_callVG (φ := fun q => q + 1000) (g := 1) (ci := 12) o (sub_m LM_far) hM hd hw (jNm_2 hn hlen) r1 rfl (fun _ => rfl) (Nat.le_of_ble_eq_true hcat) hst (fun v Pb Mb Nb q => ?_)
  obtain ⟨r, rfl, rfl, rfl, g⟩ := q
  refine ⟨_, _, _, dec_m LM_far, ?_⟩
  rw [r2, r3]
  exact kk r Mb g
set_option maxRecDepth 20000 in
theorem case_says (o : jokL X l0 nm) (u : jUa X) (hfl : l0.stackTraces = false) (S : jSc X b Ls xs) (hP : PM P) (hG : GC P Mc Nc A t) (hX : wfX A) (hM : RelM Mm A) (hi : i + 5 < Ls) (hL : Ls ≤ 3073) (hk : k + 1 ≤ 601024) (hn : n + 6 ≤ 7293000) (K : KO X P A t (k + 1) (n + 6) E b i) : J X P (cmb Mc Mm) (cmbN Nc Nm h) k n E 7 384 (loL P b i) [] := by
  have w11 := s11_says hG.1 (a := xs (i + 1)) (c := xs (i + 2)) (Q := fun r => ((okL A (xs (i + 1)) ∧ okC A (xs (i + 2))) ∧ r.toInt64 = (saysS A (xs (i + 1)) (xs (i + 2))).toInt64)) (QX := ¬ (okL A (xs (i + 1)) ∧ okC A (xs (i + 2)))) (fun q => ⟨q, rfl⟩) (fun q => q)
  refine j_aload_n o dL_law_384 rfl ?_
  refine j_arg o S 1 rfl rfl (by omega) hL dL_law_385 dL_law_386 dL_law_388 dL_law_389 dL_law_390 ?_
  refine j_arg o S 2 rfl rfl (by omega) hL dL_law_391 dL_law_392 dL_law_394 dL_law_395 dL_law_396 ?_
  refine j_aload_n o dL_law_397 rfl ?_
  refine j_callSW o u (c_L_says l0 hfl P hP.2 (xs (i + 1)) (xs (i + 2)) Mc Mm Nc Nm h (fun z => (okL A (xs (i + 1)) ∧ okC A (xs (i + 2))) ∧ z = (saysS A (xs (i + 1)) (xs (i + 2))).toInt64) (¬ (okL A (xs (i + 1)) ∧ okC A (xs (i + 2)))) w11) dL_law_398 jl_49 (jNm_2 jnL_says rfl) ⟨⟨Nat.le_of_ble_eq_true rfl, Nat.le_of_ble_eq_true rfl⟩, (by show k + 1 ≤ 601024; omega), (by show n + 6 ≤ 7293000; omega)⟩ (Nat.le_of_ble_eq_true rfl) rfl (fun r P' M' N' q => ?_)
  obtain ⟨eP, eM, q⟩ := q
  rw [eP, eM]
  rcases q with ⟨h', eN, er, ok, ev⟩ | ⟨eN, er, no⟩
  · rw [eN, er]
    refine j_istore o [(5, .int 0), (4, .int (nI i)), (0, .ref b), (1, .ref (P.1 1)), (2, .ref (P.1 1001)), (3, .ref (P.1 2000))] dL_law_401 (by decide) rfl ?_
    refine j_aload_n o dL_law_403 rfl ?_
    refine j_arg o S 1 rfl rfl (by omega) hL dL_law_404 dL_law_405 dL_law_407 dL_law_408 dL_law_409 ?_
    refine j_arg o S 2 rfl rfl (by omega) hL dL_law_410 dL_law_411 dL_law_413 dL_law_414 dL_law_415 ?_
    refine j_mc (v0 := .int (saysS A (xs (i + 1)) (xs (i + 2)))) (G := fun M' N' => RelM M' A ∧ M' 1 0 = 0) o ((c_X12_says l0 (shP P) (xs (i + 1)) (xs (i + 2)) Mm Nm (fun r M' => r = saysS A (xs (i + 1)) (xs (i + 2)) ∧ RelM M' A ∧ M' 1 0 = 0) (s12_says hM (fun _ M' r z => ⟨rfl, r, z⟩) (fun no => absurd ok no))).mono (fun r P' M' N' z => by
      obtain ⟨r, e1, e2, e3, e4, e5⟩ := z
      exact ⟨by rw [e1, e4], e2, e5⟩)) dL_law_416 jc_L_52 jn_X12_says rfl rfl hk hn rfl rfl (fun Mn Nn g2 => ?_)
    refine j_istore o [(6, .int (saysS A (xs (i + 1)) (xs (i + 2)))), (5, .int 0), (4, .int (nI i)), (0, .ref b), (1, .ref (P.1 1)), (2, .ref (P.1 1001)), (3, .ref (P.1 2000))] dL_law_419 (by decide) rfl ?_
    refine j_aload_n o dL_law_421 rfl ?_
    refine j_mc (v0 := .int 0) (G := fun M' N' => RelM M' A) o ((c_X12_thrown l0 (shP P) Mn Nn (fun r => r = 0) g2.2).mono (fun r P' M' N' z => by
      obtain ⟨r, e1, e2, e3, e4, e5⟩ := z
      exact ⟨by rw [e1, e5], e2, by rw [← e3]; exact g2.1⟩)) dL_law_422 jc_L_53 jn_X12_thrown rfl rfl hk hn rfl rfl (fun Mo No g3 => ?_)
    refine j_iload o dL_law_425 rfl ?_
    refine j_icmp_eq o (tgt := 432) dL_law_427 (by decide) (fun _ => ?_) (fun z => absurd rfl z)
    refine j_iload o dL_law_432 rfl ?_
    refine j_if_ne o (tgt := 449) dL_law_434 (by decide) (fun z => absurd rfl z) (fun _ => ?_)
    refine j_aload_n o dL_law_437 rfl ?_
    refine j_iconst o (v := 0) dL_law_438 rfl ?_
    refine j_lald o (g := 2000) (nn := 1) (fun tA => LWg_o hP.2) in01 dL_law_439 ?_
    rw [show cmbN Nc No h' 2000 (0 : Int32).toNatClampNeg = (saysS A (xs (i + 1)) (xs (i + 2))).toInt64 from ev]
    refine j_iload o dL_law_440 rfl ?_
    refine j_i2l o dL_law_442 ?_
    refine j_lcmp o dL_law_443 ?_
    rw [lgc_self]
    refine j_if_eq o (tgt := 449) dL_law_444 (by decide) (fun _ => ?_) (fun z => absurd rfl z)
    refine j_goto o (tgt := 2070) dL_law_449 (by decide) ?_
    exact j_sub (loL P b i) rfl (fun q hq => List.mem_cons_of_mem _ (List.mem_cons_of_mem _ hq)) (K Mc Mo Nc No h' A rfl hX hG.later g3)
  · rw [eN, er]
    refine j_istore o [(5, .int 1), (4, .int (nI i)), (0, .ref b), (1, .ref (P.1 1)), (2, .ref (P.1 1001)), (3, .ref (P.1 2000))] dL_law_401 (by decide) rfl ?_
    refine j_aload_n o dL_law_403 rfl ?_
    refine j_arg o S 1 rfl rfl (by omega) hL dL_law_404 dL_law_405 dL_law_407 dL_law_408 dL_law_409 ?_
    refine j_arg o S 2 rfl rfl (by omega) hL dL_law_410 dL_law_411 dL_law_413 dL_law_414 dL_law_415 ?_
    refine j_mcE (Q := fun r M' => RelM M' A ∧ M' 1 0 = 1) o (c_X12_says l0 (shP P) (xs (i + 1)) (xs (i + 2)) Mm Nm _ (s12_says hM (fun ok => absurd ok no) (fun _ v M' r z => ⟨r, z⟩))) dL_law_416 jc_L_52 jn_X12_says rfl rfl hk hn rfl rfl (fun r Mn g2 => ?_)
    refine j_istore o [(6, .int r), (5, .int 1), (4, .int (nI i)), (0, .ref b), (1, .ref (P.1 1)), (2, .ref (P.1 1001)), (3, .ref (P.1 2000))] dL_law_419 (by decide) rfl ?_
    refine j_aload_n o dL_law_421 rfl ?_
    refine j_mc (v0 := .int 1) (G := fun M' N' => RelM M' A) o ((c_X12_thrown l0 (shP P) Mn Nm (fun r => r = 1) g2.2).mono (fun r P' M' N' z => by
      obtain ⟨r, e1, e2, e3, e4, e5⟩ := z
      exact ⟨by rw [e1, e5], e2, by rw [← e3]; exact g2.1⟩)) dL_law_422 jc_L_53 jn_X12_thrown rfl rfl hk hn rfl rfl (fun Mo No g3 => ?_)
    refine j_iload o dL_law_425 rfl ?_
    refine j_icmp_eq o (tgt := 432) dL_law_427 (by decide) (fun _ => ?_) (fun z => absurd rfl z)
    refine j_iload o dL_law_432 rfl ?_
    refine j_if_ne o (tgt := 449) dL_law_434 (by decide) (fun _ => ?_) (fun z => absurd z (by decide))
    refine j_goto o (tgt := 2070) dL_law_449 (by decide) ?_
    exact j_sub (loL P b i) rfl (fun q hq => List.mem_cons_of_mem _ (List.mem_cons_of_mem _ hq)) (K Mc Mo Nc No h A rfl hX hG.later g3)
set_option maxRecDepth 20000 in
theorem case_leads (o : jokL X l0 nm) (u : jUa X) (hfl : l0.stackTraces = false) (S : jSc X b Ls xs) (hP : PM P) (hG : GC P Mc Nc A t) (hX : wfX A) (hM : RelM Mm A) (hi : i + 5 < Ls) (hL : Ls ≤ 3073) (hk : k + 1 ≤ 601024) (hn : n + 6 ≤ 7293000) (K : KO X P A t (k + 1) (n + 6) E b i) : J X P (cmb Mc Mm) (cmbN Nc Nm h) k n E 7 710 (loL P b i) [] := by
  have w11 := s11_leads hG.1 (a := xs (i + 1)) (c := xs (i + 2)) (Q := fun r => ((okF A (xs (i + 1)) ∧ okC A (xs (i + 2))) ∧ r.toInt64 = (leadV A (xs (i + 1)).toNatClampNeg (xs (i + 2)).toNatClampNeg).toInt64)) (QX := ¬ (okF A (xs (i + 1)) ∧ okC A (xs (i + 2)))) (fun q => ⟨q, rfl⟩) (fun q => q)
  refine j_aload_n o dL_law_710 rfl ?_
  refine j_arg o S 1 rfl rfl (by omega) hL dL_law_711 dL_law_712 dL_law_714 dL_law_715 dL_law_716 ?_
  refine j_arg o S 2 rfl rfl (by omega) hL dL_law_717 dL_law_718 dL_law_720 dL_law_721 dL_law_722 ?_
  refine j_aload_n o dL_law_723 rfl ?_
  refine j_callSW o u (c_L_leads l0 hfl P hP.2 (xs (i + 1)) (xs (i + 2)) Mc Mm Nc Nm h (fun z => (okF A (xs (i + 1)) ∧ okC A (xs (i + 2))) ∧ z = (leadV A (xs (i + 1)).toNatClampNeg (xs (i + 2)).toNatClampNeg).toInt64) (¬ (okF A (xs (i + 1)) ∧ okC A (xs (i + 2)))) w11) dL_law_724 jl_82 (jNm_2 jnL_leads rfl) ⟨⟨Nat.le_of_ble_eq_true rfl, Nat.le_of_ble_eq_true rfl⟩, (by show k + 1 ≤ 601024; omega), (by show n + 6 ≤ 7293000; omega)⟩ (Nat.le_of_ble_eq_true rfl) rfl (fun r P' M' N' q => ?_)
  obtain ⟨eP, eM, q⟩ := q
  rw [eP, eM]
  rcases q with ⟨h', eN, er, ok, ev⟩ | ⟨eN, er, no⟩
  · rw [eN, er]
    refine j_istore o [(5, .int 0), (4, .int (nI i)), (0, .ref b), (1, .ref (P.1 1)), (2, .ref (P.1 1001)), (3, .ref (P.1 2000))] dL_law_727 (by decide) rfl ?_
    refine j_aload_n o dL_law_729 rfl ?_
    refine j_arg o S 1 rfl rfl (by omega) hL dL_law_730 dL_law_731 dL_law_733 dL_law_734 dL_law_735 ?_
    refine j_arg o S 2 rfl rfl (by omega) hL dL_law_736 dL_law_737 dL_law_739 dL_law_740 dL_law_741 ?_
    refine j_mc (v0 := .int (leadV A (xs (i + 1)).toNatClampNeg (xs (i + 2)).toNatClampNeg)) (G := fun M' N' => RelM M' A ∧ M' 1 0 = 0) o ((c_X12_leads l0 (shP P) (xs (i + 1)) (xs (i + 2)) Mm Nm (fun r M' => r = leadV A (xs (i + 1)).toNatClampNeg (xs (i + 2)).toNatClampNeg ∧ RelM M' A ∧ M' 1 0 = 0) (s12_leads hM (fun _ M' r z => ⟨rfl, r, z⟩) (fun no => absurd ok no))).mono (fun r P' M' N' z => by
      obtain ⟨r, e1, e2, e3, e4, e5⟩ := z
      exact ⟨by rw [e1, e4], e2, e5⟩)) dL_law_742 jc_L_84 jn_X12_leads rfl rfl hk hn rfl rfl (fun Mn Nn g2 => ?_)
    refine j_istore o [(6, .int (leadV A (xs (i + 1)).toNatClampNeg (xs (i + 2)).toNatClampNeg)), (5, .int 0), (4, .int (nI i)), (0, .ref b), (1, .ref (P.1 1)), (2, .ref (P.1 1001)), (3, .ref (P.1 2000))] dL_law_745 (by decide) rfl ?_
    refine j_aload_n o dL_law_747 rfl ?_
    refine j_mc (v0 := .int 0) (G := fun M' N' => RelM M' A) o ((c_X12_thrown l0 (shP P) Mn Nn (fun r => r = 0) g2.2).mono (fun r P' M' N' z => by
      obtain ⟨r, e1, e2, e3, e4, e5⟩ := z
      exact ⟨by rw [e1, e5], e2, by rw [← e3]; exact g2.1⟩)) dL_law_748 jc_L_53 jn_X12_thrown rfl rfl hk hn rfl rfl (fun Mo No g3 => ?_)
    refine j_iload o dL_law_751 rfl ?_
    refine j_icmp_eq o (tgt := 758) dL_law_753 (by decide) (fun _ => ?_) (fun z => absurd rfl z)
    refine j_iload o dL_law_758 rfl ?_
    refine j_if_ne o (tgt := 775) dL_law_760 (by decide) (fun z => absurd rfl z) (fun _ => ?_)
    refine j_aload_n o dL_law_763 rfl ?_
    refine j_iconst o (v := 0) dL_law_764 rfl ?_
    refine j_lald o (g := 2000) (nn := 1) (fun tA => LWg_o hP.2) in01 dL_law_765 ?_
    rw [show cmbN Nc No h' 2000 (0 : Int32).toNatClampNeg = (leadV A (xs (i + 1)).toNatClampNeg (xs (i + 2)).toNatClampNeg).toInt64 from ev]
    refine j_iload o dL_law_766 rfl ?_
    refine j_i2l o dL_law_768 ?_
    refine j_lcmp o dL_law_769 ?_
    rw [lgc_self]
    refine j_if_eq o (tgt := 775) dL_law_770 (by decide) (fun _ => ?_) (fun z => absurd rfl z)
    refine j_goto o (tgt := 2070) dL_law_775 (by decide) ?_
    exact j_sub (loL P b i) rfl (fun q hq => List.mem_cons_of_mem _ (List.mem_cons_of_mem _ hq)) (K Mc Mo Nc No h' A rfl hX hG.later g3)
  · rw [eN, er]
    refine j_istore o [(5, .int 1), (4, .int (nI i)), (0, .ref b), (1, .ref (P.1 1)), (2, .ref (P.1 1001)), (3, .ref (P.1 2000))] dL_law_727 (by decide) rfl ?_
    refine j_aload_n o dL_law_729 rfl ?_
    refine j_arg o S 1 rfl rfl (by omega) hL dL_law_730 dL_law_731 dL_law_733 dL_law_734 dL_law_735 ?_
    refine j_arg o S 2 rfl rfl (by omega) hL dL_law_736 dL_law_737 dL_law_739 dL_law_740 dL_law_741 ?_
    refine j_mcE (Q := fun r M' => RelM M' A ∧ M' 1 0 = 1) o (c_X12_leads l0 (shP P) (xs (i + 1)) (xs (i + 2)) Mm Nm _ (s12_leads hM (fun ok => absurd ok no) (fun _ v M' r z => ⟨r, z⟩))) dL_law_742 jc_L_84 jn_X12_leads rfl rfl hk hn rfl rfl (fun r Mn g2 => ?_)
    refine j_istore o [(6, .int r), (5, .int 1), (4, .int (nI i)), (0, .ref b), (1, .ref (P.1 1)), (2, .ref (P.1 1001)), (3, .ref (P.1 2000))] dL_law_745 (by decide) rfl ?_
    refine j_aload_n o dL_law_747 rfl ?_
    refine j_mc (v0 := .int 1) (G := fun M' N' => RelM M' A) o ((c_X12_thrown l0 (shP P) Mn Nm (fun r => r = 1) g2.2).mono (fun r P' M' N' z => by
      obtain ⟨r, e1, e2, e3, e4, e5⟩ := z
      exact ⟨by rw [e1, e5], e2, by rw [← e3]; exact g2.1⟩)) dL_law_748 jc_L_53 jn_X12_thrown rfl rfl hk hn rfl rfl (fun Mo No g3 => ?_)
    refine j_iload o dL_law_751 rfl ?_
    refine j_icmp_eq o (tgt := 758) dL_law_753 (by decide) (fun _ => ?_) (fun z => absurd rfl z)
    refine j_iload o dL_law_758 rfl ?_
    refine j_if_ne o (tgt := 775) dL_law_760 (by decide) (fun _ => ?_) (fun z => absurd z (by decide))
    refine j_goto o (tgt := 2070) dL_law_775 (by decide) ?_
    exact j_sub (loL P b i) rfl (fun q hq => List.mem_cons_of_mem _ (List.mem_cons_of_mem _ hq)) (K Mc Mo Nc No h A rfl hX hG.later g3)
end CAT
